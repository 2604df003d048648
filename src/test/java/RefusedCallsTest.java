import java.util.ArrayList;
import java.util.List;
import java.util.function.Consumer;
import java.util.function.IntSupplier;
import java.util.function.Supplier;

/**
 * "A call that throws changes nothing": in several states each call that is refused is made on an
 * object, and then all that can be asked is compared with a twin on which it was not made.
 */
public final class RefusedCallsTest extends Checks {
    private static final int THROWN = -1000;

    private static int refused = 0;

    private interface Look {
        void at(PlaneColours x, List<Integer> answers);
    }

    /** A state to refuse calls in, with what there is in it. */
    private static final class State {
        final String name;
        final Supplier<PlaneColours> make;
        final int vertices;
        final int edges;
        final int goneEdge;
        final int faces;

        State(String name, Supplier<PlaneColours> make, int edges, int goneEdge) {
            this.name = name;
            this.make = make;
            this.vertices = make.get().told(0);
            this.edges = edges;
            this.goneEdge = goneEdge;
            this.faces = make.get().faces();
        }

        void refuses(String call, Class<? extends Exception> thrown, Consumer<PlaneColours> doCall) {
            refused++;
            // no object may need more than 512 calls, so each look has two of its own
            for (Look look : LOOKS) {
                PlaneColours x = make.get();
                fails(name + ", " + call, thrown, () -> doCall.accept(x));
                List<Integer> answers = seen(x, look);
                List<Integer> due = seen(make.get(), look);
                if (!answers.equals(due)) {
                    report(name + ", after " + call + ": answers " + answers + ", due are " + due);
                }
            }
        }
    }

    // ---- what can be seen ----

    private static final Look[] LOOKS = {
        RefusedCallsTest::lookAtNumbers, RefusedCallsTest::lookAtVertices, RefusedCallsTest::lookAtRounds,
        RefusedCallsTest::lookAtEdges, RefusedCallsTest::lookAtCycles, RefusedCallsTest::lookAtFaces};

    private static List<Integer> seen(PlaneColours x, Look look) {
        List<Integer> answers = new ArrayList<>();
        look.at(x, answers);
        lookAtNextNumbers(x, answers);
        return answers;
    }

    private static int answer(IntSupplier call) {
        try {
            return call.getAsInt();
        } catch (RuntimeException e) {
            return THROWN - e.getClass().getName().length();
        }
    }

    private static void lookAtNumbers(PlaneColours x, List<Integer> answers) {
        for (int what = 0; what < 4; what++) {
            answers.add(x.told(what));
        }
        answers.add(x.faces());
        answers.add(x.parts());
        answers.add(x.genus());
        answers.add(x.exchanges());
        answers.add(x.clashes());
        answers.add(answer(x::best));
    }

    private static void lookAtVertices(PlaneColours x, List<Integer> answers) {
        for (int vertex = 0; vertex < x.told(0); vertex++) {
            answers.add(x.degree(vertex));
            answers.add(x.colourOf(vertex));
            answers.add(x.above(vertex));
        }
    }

    private static void lookAtRounds(PlaneColours x, List<Integer> answers) {
        for (int vertex = 0; vertex < x.told(0); vertex++) {
            for (int edge : round(x, vertex)) {
                answers.add(edge);
            }
            answers.add(NONE);
        }
    }

    private static void lookAtEdges(PlaneColours x, List<Integer> answers) {
        for (int edge = 0; edge <= 100; edge++) {
            int number = edge;
            answers.add(answer(() -> x.end(number, false)));
            answers.add(answer(() -> x.end(number, true)));
        }
    }

    private static void lookAtCycles(PlaneColours x, List<Integer> answers) {
        for (int edge = 0; edge <= 100; edge++) {
            int number = edge;
            answers.add(answer(() -> x.cycle(number)));
            answers.add(answer(() -> x.side(number, true)));
        }
    }

    private static void lookAtFaces(PlaneColours x, List<Integer> answers) {
        for (int number = 0; number < x.faces(); number++) {
            for (int vertex : face(x, number)) {
                answers.add(vertex);
            }
            answers.add(NONE);
        }
    }

    /** A change inside that no question shows would show in the numbers and orders of what comes next. */
    private static void lookAtNextNumbers(PlaneColours x, List<Integer> answers) {
        answers.add(answer(x::vertex));
        int last = x.told(0) - 1;
        answers.add(answer(() -> x.edge(last, 0, NONE, NONE)));
        if (last >= 0) {
            for (int edge : round(x, 0)) {
                answers.add(edge);
            }
        }
        answers.add(answer(x::colour));
        answers.add(x.exchanges());
    }

    // ---- states ----

    private static PlaneColours colouredGraph() {
        PlaneColours x = firstPairGraph();
        x.remove(17);
        x.edge(4, 6, 1, 14);
        x.colour();
        x.exchange(0, 1);
        x.vertex();
        return x;
    }

    private static PlaneColours twistedGraph() {
        PlaneColours x = twistedK4();
        x.vertex();
        x.vertex();
        x.edge(3, 4, 2, NONE);
        x.remove(6);
        return x;
    }

    private static PlaneColours fullOfVertices() {
        PlaneColours x = path(30);
        x.remove(12);
        x.colour();
        return x;
    }

    private static PlaneColours fullOfEdges() {
        PlaneColours x = withManyEdges(15, 100);
        x.remove(50);
        return x;
    }

    // ---- calls ----

    private static void refuseNumbers(State state) {
        for (int v : ints(NONE, state.vertices, LEAST, GREATEST)) {
            state.refuses("degree(" + v + ")", BOUNDS, x -> x.degree(v));
            state.refuses("round(" + v + ", 0)", BOUNDS, x -> x.round(v, 0));
            state.refuses("colourOf(" + v + ")", BOUNDS, x -> x.colourOf(v));
            state.refuses("exchange(" + v + ", 1)", BOUNDS, x -> x.exchange(v, 1));
            state.refuses("above(" + v + ")", BOUNDS, x -> x.above(v));
            state.refuses("edge(" + v + ", 0, -1, -1)", BOUNDS, x -> x.edge(v, 0, NONE, NONE));
            state.refuses("edge(0, " + v + ", -1, -1)", BOUNDS, x -> x.edge(0, v, NONE, NONE));
        }
        for (int edge : ints(NONE, state.edges, state.goneEdge, LEAST, GREATEST)) {
            state.refuses("remove(" + edge + ")", BOUNDS, x -> x.remove(edge));
            state.refuses("end(" + edge + ", true)", BOUNDS, x -> x.end(edge, true));
            state.refuses("cycle(" + edge + ")", BOUNDS, x -> x.cycle(edge));
            state.refuses("side(" + edge + ", false)", BOUNDS, x -> x.side(edge, false));
        }
        for (int face : ints(NONE, state.faces, LEAST, GREATEST)) {
            state.refuses("sides(" + face + ")", BOUNDS, x -> x.sides(face));
            state.refuses("from(" + face + ", 0)", BOUNDS, x -> x.from(face, 0));
        }
    }

    /** Of states with an edge 1, from one told vertex to another, and an edge 2 that is not at the first. */
    private static void refuseEdges(State state, int first, int second) {
        int last = state.vertices - 1;
        for (int edge : ints(-2, state.edges, state.goneEdge, LEAST, GREATEST)) {
            state.refuses("edge(first, last, " + edge + ", -1)", BOUNDS, x -> x.edge(first, last, edge, NONE));
            state.refuses("edge(first, last, 1, " + edge + ")", BOUNDS, x -> x.edge(first, last, 1, edge));
        }
        state.refuses("edge(first, first, -1, -1)", ARGUMENT, x -> x.edge(first, first, NONE, NONE));
        state.refuses("edge(first, second, -1, -1)", ARGUMENT, x -> x.edge(first, second, NONE, NONE));
        state.refuses("edge(second, first, 1, 1)", ARGUMENT, x -> x.edge(second, first, 1, 1));
        state.refuses("edge(first, last, 2, -1)", ARGUMENT, x -> x.edge(first, last, 2, NONE));
        state.refuses("edge(first, last, 1, 1)", ARGUMENT, x -> x.edge(first, last, 1, 1));
        for (int place : ints(NONE, 29, LEAST, GREATEST)) {
            state.refuses("round(first, " + place + ")", BOUNDS, x -> x.round(first, place));
        }
        for (int k : ints(NONE, 200, LEAST, GREATEST)) {
            state.refuses("from(0, " + k + ")", BOUNDS, x -> x.from(0, k));
        }
    }

    private static void refuseColours(State state, int vertex, int own) {
        for (int colour : ints(LEAST, NONE, 0, own, 6, GREATEST)) {
            state.refuses("exchange(" + vertex + ", " + colour + ")", ARGUMENT, x -> x.exchange(vertex, colour));
        }
    }

    private static void refuseWithoutPlane(State state, int treeEdge, int otherEdge) {
        state.refuses("colour()", STATE, PlaneColours::colour);
        state.refuses("best()", STATE, PlaneColours::best);
        state.refuses("side(" + treeEdge + ", true)", STATE, x -> x.side(treeEdge, true));
        state.refuses("side(" + otherEdge + ", true)", STATE, x -> x.side(otherEdge, true));
        state.refuses("side(" + otherEdge + ", false)", STATE, x -> x.side(otherEdge, false));
    }

    private static void refuseInEmptyAndBare() {
        refuseNumbers(new State("new", PlaneColours::new, 0, 0));
        State bare = new State("bare", () -> vertices(3), 0, 0);
        refuseNumbers(bare);
        bare.refuses("edge(1, 1, -1, -1)", ARGUMENT, x -> x.edge(1, 1, NONE, NONE));
        bare.refuses("round(0, 0)", BOUNDS, x -> x.round(0, 0));
        refuseColours(bare, 2, 1);
    }

    private static void refuseInColoured() {
        State coloured = new State("coloured", RefusedCallsTest::colouredGraph, 19, 17);
        refuseNumbers(coloured);
        refuseEdges(coloured, 4, 1);
        refuseColours(coloured, 3, 2);
        coloured.refuses("exchange(8, 1)", ARGUMENT, x -> x.exchange(8, 1));
    }

    private static void refuseInTwisted() {
        State twisted = new State("not plane", RefusedCallsTest::twistedGraph, 7, 6);
        refuseNumbers(twisted);
        refuseEdges(twisted, 2, 0);
        refuseWithoutPlane(twisted, 0, 5);
        refuseColours(twisted, 0, 1);
    }

    private static void refuseInFull() {
        State ofVertices = new State("full of vertices", RefusedCallsTest::fullOfVertices, 29, 12);
        refuseNumbers(ofVertices);
        refuseEdges(ofVertices, 1, 2);
        ofVertices.refuses("vertex()", UNSUPPORTED, PlaneColours::vertex);
        State ofEdges = new State("full of edges", RefusedCallsTest::fullOfEdges, 100, 50);
        refuseNumbers(ofEdges);
        refuseWithoutPlane(ofEdges, 0, 99);
        ofEdges.refuses("edge(9, 14, -1, -1)", UNSUPPORTED, x -> x.edge(9, 14, NONE, NONE));
        ofEdges.refuses("edge(9, 14, 36, 99)", UNSUPPORTED, x -> x.edge(9, 14, 36, 99));
        ofEdges.refuses("edge(9, 14, 0, 99)", ARGUMENT, x -> x.edge(9, 14, 0, 99));
        State ofGone = new State("full of edges and vertices", () -> withManyEdges(30, 100), 100, 100);
        ofGone.refuses("vertex()", UNSUPPORTED, PlaneColours::vertex);
        ofGone.refuses("edge(28, 29, -1, -1)", UNSUPPORTED, x -> x.edge(28, 29, NONE, NONE));
    }

    public static void main(String[] args) {
        sentence("A call that throws changes nothing (empty and bare)", RefusedCallsTest::refuseInEmptyAndBare);
        sentence("A call that throws changes nothing (coloured)", RefusedCallsTest::refuseInColoured);
        sentence("A call that throws changes nothing (not plane)", RefusedCallsTest::refuseInTwisted);
        sentence("A call that throws changes nothing (full)", RefusedCallsTest::refuseInFull);
        finish(refused + " calls that throw change nothing");
    }
}
