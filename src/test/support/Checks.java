import java.util.Arrays;

/** What the tests share: how answers are compared, and graphs that several of them use. */
public abstract class Checks {
    protected static final int NONE = PlaneColours.NONE;
    protected static final int LEAST = Integer.MIN_VALUE;
    protected static final int GREATEST = Integer.MAX_VALUE;
    protected static final Class<? extends Exception> BOUNDS = IndexOutOfBoundsException.class;
    protected static final Class<? extends Exception> ARGUMENT = IllegalArgumentException.class;
    protected static final Class<? extends Exception> STATE = IllegalStateException.class;
    protected static final Class<? extends Exception> UNSUPPORTED = UnsupportedOperationException.class;

    private static int wrong = 0;

    /** A test of one sentence of the document: what fails in it is told with the sentence's words. */
    protected static void sentence(String words, Runnable test) {
        int wrongBefore = wrong;
        try {
            test.run();
        } catch (RuntimeException e) {
            report("a call threw " + e);
        }
        if (wrong != wrongBefore) {
            System.out.println("-- so this does not hold: " + words);
        }
    }

    protected static void report(String text) {
        wrong++;
        System.out.println(text);
    }

    protected static void is(String what, long got, long want) {
        if (got != want) {
            report(what + ": answered " + got + ", due is " + want);
        }
    }

    protected static void row(String what, int[] got, int... want) {
        if (!Arrays.equals(got, want)) {
            report(what + ": answered " + Arrays.toString(got) + ", due is " + Arrays.toString(want));
        }
    }

    protected static void fails(String what, Class<? extends Exception> want, Runnable call) {
        Class<?> got = null;
        try {
            call.run();
        } catch (RuntimeException e) {
            got = e.getClass();
        }
        if (got != want) {
            report(what + ": threw " + got + ", due is " + want);
        }
    }

    protected static void finish(String good) {
        System.out.println(wrong == 0 ? good : wrong + " answers are not as promised");
        if (wrong != 0) {
            System.exit(1);
        }
    }

    // ---- graphs ----

    protected static PlaneColours vertices(int count) {
        PlaneColours x = new PlaneColours();
        for (int i = 0; i < count; i++) {
            x.vertex();
        }
        return x;
    }

    /** Each edge comes last round both of its ends. */
    protected static PlaneColours withEdges(int count, int[]... ends) {
        PlaneColours x = vertices(count);
        for (int[] two : ends) {
            x.edge(two[0], two[1], NONE, NONE);
        }
        return x;
    }

    protected static int[] e(int first, int second) {
        return new int[] {first, second};
    }

    protected static int[] ints(int... all) {
        return all;
    }

    protected static PlaneColours triangle() {
        return withEdges(3, e(0, 1), e(1, 2), e(2, 0));
    }

    protected static PlaneColours path(int count) {
        PlaneColours x = vertices(count);
        for (int i = 1; i < count; i++) {
            x.edge(i - 1, i, NONE, NONE);
        }
        return x;
    }

    protected static PlaneColours star(int count) {
        PlaneColours x = vertices(count);
        for (int i = 1; i < count; i++) {
            x.edge(0, i, NONE, NONE);
        }
        return x;
    }

    protected static PlaneColours ring(int count) {
        PlaneColours x = path(count);
        x.edge(count - 1, 0, NONE, NONE);
        return x;
    }

    /** K4 whose orders are those in which the edges came: not plane. */
    protected static PlaneColours twistedK4() {
        return withEdges(4, e(0, 1), e(0, 2), e(0, 3), e(1, 2), e(1, 3), e(2, 3));
    }

    /** K4 with vertex 3 in the face 0, 1, 2 of the triangle. */
    protected static PlaneColours planeK4() {
        PlaneColours x = triangle();
        x.vertex();
        x.edge(0, 3, 2, NONE);
        x.edge(1, 3, 0, NONE);
        x.edge(2, 3, 1, 3);
        return x;
    }

    /** As many edges as told, between vertices 0, 1, .. that have each an edge to all those before. */
    protected static PlaneColours withManyEdges(int vertexCount, int edgeCount) {
        PlaneColours x = vertices(vertexCount);
        int made = 0;
        for (int u = 1; u < vertexCount && made < edgeCount; u++) {
            for (int v = 0; v < u && made < edgeCount; v++) {
                is("number of an edge", x.edge(v, u, NONE, NONE), made);
                made++;
            }
        }
        return x;
    }

    /** Edges as told, each put so that the orders round the vertices become the rounds. */
    protected static PlaneColours withRounds(int[][] ends, int[]... rounds) {
        PlaneColours x = vertices(rounds.length);
        for (int edge = 0; edge < ends.length; edge++) {
            int u = ends[edge][0];
            int v = ends[edge][1];
            x.edge(u, v, lastBefore(rounds[u], edge), lastBefore(rounds[v], edge));
        }
        for (int v = 0; v < rounds.length; v++) {
            row("round " + v, round(x, v), rounds[v]);
        }
        return x;
    }

    private static int lastBefore(int[] round, int edge) {
        int found = NONE;
        for (int other : round) {
            if (other == edge) {
                break;
            }
            found = other < edge ? other : found;
        }
        return found;
    }

    /**
     * 7 .. 1 get 1, 2, 1, 3, 2, 4, 5; round 0 are 1, 4, 5, 3, 2 with all five. The chain of 1 by 5
     * and 1 is 1, 7, without 5: both change, 0 gets 5.
     */
    protected static PlaneColours firstPairGraph() {
        return withRounds(new int[][] {
            {1, 0}, {1, 4}, {1, 2}, {2, 4}, {0, 3}, {1, 6}, {4, 7}, {3, 5}, {2, 0},
            {0, 5}, {3, 2}, {4, 5}, {1, 7}, {4, 3}, {6, 7}, {7, 2}, {4, 0}, {4, 6}},
            ints(0, 16, 9, 4, 8), ints(0, 2, 12, 5, 1), ints(2, 8, 10, 3, 15), ints(4, 7, 13, 10),
            ints(1, 17, 6, 3, 13, 11, 16), ints(7, 9, 11), ints(5, 14, 17), ints(6, 14, 12, 15));
    }

    /**
     * 2 goes before 0 and 1; round it are 0, 3, 1, 4, 5 with 5, 3, 4, 2, 1. The chain of 0 by 5 and 4
     * has 1; that of 3 by 3 and 2 is 3, 6, without 4: both change, 2 gets 3.
     */
    protected static PlaneColours secondPairGraph() {
        return withRounds(new int[][] {
            {1, 0}, {0, 5}, {5, 4}, {1, 3}, {1, 4}, {0, 2}, {1, 2}, {3, 6}, {1, 7},
            {5, 2}, {7, 6}, {0, 3}, {6, 0}, {5, 1}, {7, 3}, {0, 7}, {3, 2}, {2, 4}},
            ints(0, 15, 12, 11, 5, 1), ints(0, 13, 4, 6, 3, 8), ints(5, 16, 6, 17, 9),
            ints(3, 16, 11, 7, 14), ints(2, 17, 4), ints(1, 9, 2, 13), ints(7, 12, 10), ints(8, 14, 10, 15));
    }

    // ---- several answers at once ----

    protected static int[] round(PlaneColours x, int vertex) {
        int[] all = new int[x.degree(vertex)];
        for (int i = 0; i < all.length; i++) {
            all[i] = x.round(vertex, i);
        }
        return all;
    }

    protected static int[] face(PlaneColours x, int face) {
        int[] all = new int[x.sides(face)];
        for (int i = 0; i < all.length; i++) {
            all[i] = x.from(face, i);
        }
        return all;
    }

    protected static int[] colours(PlaneColours x) {
        int[] all = new int[x.told(0)];
        for (int i = 0; i < all.length; i++) {
            all[i] = x.colourOf(i);
        }
        return all;
    }

    protected static int[] tree(PlaneColours x) {
        int[] all = new int[x.told(0)];
        for (int i = 0; i < all.length; i++) {
            all[i] = x.above(i);
        }
        return all;
    }

    protected static int[] told(PlaneColours x) {
        return ints(x.told(0), x.told(1), x.told(2), x.told(3));
    }

    protected static void isEmpty(String what, PlaneColours x) {
        row(what + " told", told(x), 0, 0, 1, 0);
        row(what + " faces, parts, genus", ints(x.faces(), x.parts(), x.genus()), 0, 0, 0);
        is(what + " best", x.best(), NONE);
        is(what + " exchanges", x.exchanges(), 0);
        is(what + " clashes", x.clashes(), 0);
        fails(what + " vertex 0", BOUNDS, () -> x.degree(0));
        fails(what + " edge 0", BOUNDS, () -> x.end(0, false));
        fails(what + " face 0", BOUNDS, () -> x.sides(0));
    }
}
