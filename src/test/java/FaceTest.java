import java.lang.reflect.Constructor;
import java.lang.reflect.Field;
import java.lang.reflect.Method;
import java.lang.reflect.Modifier;
import java.util.ArrayList;
import java.util.Arrays;
import java.util.HashSet;
import java.util.List;
import java.util.Set;
import java.util.TreeSet;

/** The class has the document's public face and nothing else that can be seen (LANGUAGE.md, rules 1 and 5). */
public final class FaceTest {
    private static final String[] FACE = {
        "int vertex() throws UnsupportedOperationException",
        "int edge(int, int, int, int) throws IndexOutOfBoundsException, IllegalArgumentException,"
                + " UnsupportedOperationException",
        "int remove(int) throws IndexOutOfBoundsException",
        "int degree(int) throws IndexOutOfBoundsException",
        "int round(int, int) throws IndexOutOfBoundsException",
        "int end(int, boolean) throws IndexOutOfBoundsException",
        "int faces()",
        "int sides(int) throws IndexOutOfBoundsException",
        "int from(int, int) throws IndexOutOfBoundsException",
        "int parts()",
        "int genus()",
        "int colour() throws IllegalStateException",
        "int colourOf(int) throws IndexOutOfBoundsException",
        "int exchanges()",
        "int exchange(int, int) throws IndexOutOfBoundsException, IllegalArgumentException",
        "int clashes()",
        "int above(int) throws IndexOutOfBoundsException",
        "int cycle(int) throws IndexOutOfBoundsException",
        "int side(int, boolean) throws IndexOutOfBoundsException, IllegalStateException",
        "int best() throws IllegalStateException",
        "int told(int)",
        "void clear()",
    };

    private static int wrong = 0;

    private static void check(boolean holds, String what) {
        if (!holds) {
            wrong++;
            System.out.println("not so: " + what);
        }
    }

    private static String names(Class<?>[] types) {
        List<String> names = new ArrayList<>();
        for (Class<?> type : types) {
            names.add(type.getSimpleName());
        }
        return String.join(", ", names);
    }

    private static String text(Method m) {
        String thrown = names(m.getExceptionTypes());
        return m.getReturnType().getSimpleName() + " " + m.getName() + "(" + names(m.getParameterTypes()) + ")"
                + (thrown.isEmpty() ? "" : " throws " + thrown);
    }

    private static void checkMethods() {
        Set<String> seen = new TreeSet<>();
        Set<String> publicNames = new HashSet<>();
        for (Method m : PlaneColours.class.getDeclaredMethods()) {
            if (!Modifier.isPrivate(m.getModifiers())) {
                check(Modifier.isPublic(m.getModifiers()) && !Modifier.isStatic(m.getModifiers()), m + " is public");
                seen.add(text(m));
                publicNames.add(m.getName());
            }
        }
        check(seen.equals(new TreeSet<>(Arrays.asList(FACE))), "the methods are those of the document: " + seen);
        List<Class<?>> all = new ArrayList<>(Arrays.asList(PlaneColours.class.getDeclaredClasses()));
        all.add(PlaneColours.class);
        for (Class<?> type : all) {
            for (Method m : type.getDeclaredMethods()) {
                boolean isFace = type == PlaneColours.class && Modifier.isPublic(m.getModifiers());
                check(isFace || !publicNames.contains(m.getName()), m + " has a name of its own");
            }
        }
    }

    private static void checkFields() {
        for (Field f : PlaneColours.class.getDeclaredFields()) {
            int modifiers = f.getModifiers();
            check(Modifier.isPrivate(modifiers) || f.getName().equals("NONE"), f + " is private");
            check(!Modifier.isStatic(modifiers) || Modifier.isFinal(modifiers), f + " is final");
        }
    }

    public static void main(String[] args) throws Exception {
        int modifiers = PlaneColours.class.getModifiers();
        check(Modifier.isPublic(modifiers) && Modifier.isFinal(modifiers), "the class is public and final");
        check(Modifier.isPublic(PlaneColours.class.getDeclaredField("NONE").getModifiers()), "NONE is public");
        Constructor<?>[] made = PlaneColours.class.getDeclaredConstructors();
        check(made.length == 1 && made[0].getParameterCount() == 0 && Modifier.isPublic(made[0].getModifiers()),
                "one public constructor without parameters");
        for (Class<?> inner : PlaneColours.class.getDeclaredClasses()) {
            check(Modifier.isStatic(inner.getModifiers()) && !Modifier.isPublic(inner.getModifiers())
                    && !Modifier.isProtected(inner.getModifiers()), inner + " is static and not public");
        }
        checkMethods();
        checkFields();
        System.out.println(wrong == 0 ? "the face is the document's" : wrong + " faults of the face");
        if (wrong != 0) {
            System.exit(1);
        }
    }
}
