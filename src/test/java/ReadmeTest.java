import java.io.IOException;
import java.lang.reflect.Method;
import java.lang.reflect.Modifier;
import java.nio.file.DirectoryStream;
import java.nio.file.Files;
import java.nio.file.Path;
import java.util.regex.Matcher;
import java.util.regex.Pattern;

/** What README.md says is so: its example, the calls and tests that it names, how one test is run. */
public final class ReadmeTest extends Checks {
    private static final Pattern ASKED = Pattern.compile("(?m)^(x\\..*);\\s*// (-?\\d+)(:.*)?$");

    public static void main(String[] args) throws IOException, InterruptedException {
        String page = Files.readString(Path.of("README.md"));
        exampleAnswersAsItSays(block(page, "java"));
        commandsForOneTestWork(block(page, "sh"));
        namesEachCall(page);
        namesEachTest(page);
        finish("the README says what is so");
    }

    private static String block(String page, String language) {
        String opening = "```" + language + "\n";
        int start = page.indexOf(opening);
        int end = page.indexOf("```", start + opening.length());
        if (start < 0 || end < 0) {
            report("README.md has no block of " + language);
            return "";
        }
        return page.substring(start + opening.length(), end);
    }

    /** The example is made a program that ends with exit code 1 at the first answer that is another one. */
    private static void exampleAnswersAsItSays(String example) throws IOException, InterruptedException {
        Matcher asked = ASKED.matcher(example);
        is("answers that the example tells", asked.results().count(), example.lines().filter(l -> l.startsWith("x.")).count());
        String body = asked.replaceAll("due(\"$1\", $1, $2);");
        String program = "public class Example {\n"
                + "static void due(String call, int got, int want) {\n"
                + "if (got != want) { System.out.println(call + \": answered \" + got + \", README says \" + want);"
                + " System.exit(1); } }\n"
                + "public static void main(String[] args) {\n" + body + "} }\n";
        Path folder = Files.createTempDirectory("readme");
        Path source = Files.writeString(folder.resolve("Example.java"), program);
        is("javac of the example", run("javac", "--release", "17", "-d", folder.toString(),
                "src/main/java/PlaneColours.java", source.toString()), 0);
        is("the example", run("java", "-cp", folder.toString(), "Example"), 0);
        deleteAll(folder);
    }

    private static void commandsForOneTestWork(String commands) throws IOException, InterruptedException {
        is("the commands for one test", run("sh", "-e", "-c", commands), 0);
    }

    private static void namesEachCall(String page) {
        for (Method method : PlaneColours.class.getDeclaredMethods()) {
            if (Modifier.isPublic(method.getModifiers()) && !page.contains("`" + method.getName() + "`")) {
                report("README.md does not name the call " + method.getName());
            }
        }
    }

    private static void namesEachTest(String page) throws IOException {
        try (DirectoryStream<Path> tests = Files.newDirectoryStream(Path.of("src/test/java"))) {
            for (Path test : tests) {
                if (!page.contains("`src/test/java/" + test.getFileName() + "`")) {
                    report("README.md does not name the test " + test);
                }
            }
        }
        is("README.md says that .ci/run runs them", page.contains("\n    .ci/run\n") ? 1 : 0, 1);
        is(".ci/run can be run", Files.isExecutable(Path.of(".ci/run")) ? 1 : 0, 1);
    }

    private static int run(String... command) throws IOException, InterruptedException {
        return new ProcessBuilder(command).inheritIO().start().waitFor();
    }

    private static void deleteAll(Path folder) throws IOException {
        try (DirectoryStream<Path> files = Files.newDirectoryStream(folder)) {
            for (Path file : files) {
                Files.delete(file);
            }
        }
        Files.delete(folder);
    }
}
