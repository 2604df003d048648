/**
 * Each sentence under the document's 'What it is' and 'Terms' that names a boundary case, with a
 * test of its own whose answers are worked out by hand.
 */
public final class TermsBoundaryTest extends Checks {
    // ---- how many there may be ----

    private static void lastOf512Calls() {
        PlaneColours x = triangle();
        x.colour();
        int calls = 7;
        for (; calls < 511; calls++) {
            is("call " + calls, x.exchange(0, calls % 2 == 0 ? 4 : 5), 1);
        }
        is("call 512", x.colourOf(0), 4);
    }

    private static void thirtyVertices() {
        PlaneColours x = new PlaneColours();
        for (int i = 0; i < 30; i++) {
            is("number", x.vertex(), i);
        }
        fails("one more", UNSUPPORTED, x::vertex);
        fails("one more, again", UNSUPPORTED, x::vertex);
        is("vertices", x.told(0), 30);
        is("the last one is as good as another", x.edge(29, 0, NONE, NONE), 0);
        row("its order", round(x, 29), 0);
        fails("no vertex 30", BOUNDS, () -> x.degree(30));
    }

    private static void hundredEdges() {
        PlaneColours x = withManyEdges(15, 100);
        fails("one more", UNSUPPORTED, () -> x.edge(9, 14, NONE, NONE));
        fails("one more, again", UNSUPPORTED, () -> x.edge(9, 14, NONE, NONE));
        is("edges", x.told(1), 100);
        row("ends of the last one", ints(x.end(99, false), x.end(99, true)), 8, 14);
        fails("no edge 100", BOUNDS, () -> x.end(100, false));
    }

    private static void goneEdgesKeepTheirNumbers() {
        PlaneColours x = withEdges(3, e(0, 1), e(1, 2));
        x.remove(1);
        is("a gone number does not come again", x.edge(1, 2, NONE, NONE), 2);
        fails("it stays gone", BOUNDS, () -> x.end(1, false));
        is("edges that are left", x.told(1), 2);
    }

    private static void goneEdgesCountAmongTheHundred() {
        PlaneColours x = vertices(2);
        for (int i = 0; i < 100; i++) {
            is("number", x.edge(0, 1, NONE, NONE), i);
            is("left", x.remove(i), 0);
        }
        fails("one more", UNSUPPORTED, () -> x.edge(0, 1, NONE, NONE));
        row("none is there", told(x), 2, 0, 1, 0);
    }

    /**
     * The greatest plane graph: all 30 vertices, all 100 numbers, 16 of them gone; poles 0 and 1 and a
     * rim 2 .. 29. Spokes of 0 are 16 .. 43, the rim 44 .. 71, spokes of 1 are 72 .. 99.
     */
    private static PlaneColours fullPlane() {
        PlaneColours x = vertices(30);
        for (int i = 0; i < 16; i++) {
            x.edge(0, 1, NONE, NONE);
            x.remove(i);
        }
        for (int v = 2; v < 30; v++) {
            x.edge(0, v, NONE, NONE);
        }
        for (int v = 2; v < 29; v++) {
            x.edge(v, v + 1, NONE, NONE);
        }
        x.edge(29, 2, NONE, 16);
        for (int v = 2; v < 30; v++) {
            x.edge(1, v, v == 2 ? NONE : 72, v == 2 ? 71 : 41 + v);
        }
        return x;
    }

    private static void allAnswersWhenFull() {
        PlaneColours x = fullPlane();
        row("counts", ints(x.faces(), x.parts(), x.genus()), 56, 1, 0);
        row("degrees", ints(x.degree(0), x.degree(1), x.degree(2), x.degree(29)), 28, 28, 4, 4);
        row("the last face", face(x, 55), 29, 2, 1);
        row("the tree", ints(x.above(0), x.above(1), x.above(2), x.above(29)), NONE, 2, 0, 0);
        row("cycles", ints(x.cycle(44), x.cycle(71), x.cycle(99), x.cycle(72)), 3, 3, 4, 0);
        row("all but three on one side", ints(x.side(44, true), x.side(44, false)), 27, 0);
        row("all but four on one side", ints(x.side(99, true), x.side(99, false)), 0, 26);
        is("13 on either side", x.best(), 86);
        row("these", ints(x.side(86, true), x.side(86, false)), 13, 13);
        is("colours", x.colour(), 3);
        row("poles and rim", ints(x.colourOf(0), x.colourOf(1), x.colourOf(2), x.colourOf(28), x.colourOf(29)),
                3, 3, 2, 2, 1);
        row("chains", ints(x.exchange(29, 2), x.exchange(0, 4), x.exchange(1, 2)), 28, 1, 15);
        row("nothing clashes", ints(x.clashes(), x.exchanges(), x.told(3)), 0, 0, 4);
        fails("no more vertices", UNSUPPORTED, x::vertex);
        fails("no more edges", UNSUPPORTED, () -> x.edge(0, 1, NONE, NONE));
        row("told", told(x), 30, 84, 1, 4);
    }

    private static void noTwoEdgesHaveTheSameEnds() {
        PlaneColours x = withEdges(3, e(0, 1), e(2, 1));
        fails("the same", ARGUMENT, () -> x.edge(0, 1, NONE, NONE));
        fails("the other way", ARGUMENT, () -> x.edge(1, 0, NONE, NONE));
        fails("as the last one", ARGUMENT, () -> x.edge(1, 2, NONE, NONE));
        x.remove(0);
        is("a gone one does not hinder", x.edge(1, 0, NONE, NONE), 2);
    }

    // ---- the order round a vertex ----

    private static void behindOneOrLast() {
        PlaneColours x = vertices(8);
        x.edge(0, 1, NONE, NONE);
        row("the only one", round(x, 0), 0);
        x.edge(0, 2, 0, NONE);
        row("behind the only one", round(x, 0), 0, 1);
        x.edge(0, 3, 0, NONE);
        row("behind the first", round(x, 0), 0, 2, 1);
        x.edge(0, 4, 1, NONE);
        row("behind the last", round(x, 0), 0, 2, 1, 3);
        x.edge(0, 5, NONE, NONE);
        row("last", round(x, 0), 0, 2, 1, 3, 4);
        x.edge(6, 0, NONE, NONE);
        row("last round the second end", round(x, 0), 0, 2, 1, 3, 4, 5);
        x.edge(7, 0, NONE, 0);
        row("behind the first round the second end", round(x, 0), 0, 6, 2, 1, 3, 4, 5);
    }

    /** Back from 1 and 2 the sides turn from the last edge to the first one. */
    private static void behindTheLastComesTheFirst() {
        PlaneColours x = triangle();
        row("along next ones", face(x, 0), 0, 1, 2);
        row("from the last to the first", face(x, 1), 1, 0, 2);
        PlaneColours one = path(2);
        row("the only one comes behind itself", face(one, 0), 0, 1);
        PlaneColours spokes = star(4);
        row("all round", face(spokes, 0), 0, 1, 0, 2, 0, 3);
    }

    /** A vertex put behind the last edge or before the first is in one and the same face. */
    private static void lastAndBeforeTheFirstAreOnePlace() {
        PlaneColours last = ring(4);
        last.vertex();
        last.edge(0, 4, NONE, NONE);
        row("the round", round(last, 0), 0, 3, 4);
        row("its face", face(last, 0), 0, 1, 2, 3, 0, 4);
        last.remove(0);
        last.edge(0, 1, NONE, 1);
        row("the old first one is last now", round(last, 0), 3, 4, 5);
        row("the same face", face(last, 0), 1, 2, 3, 0, 4, 0);
        row("the other face turns from the last to the first", face(last, 1), 2, 1, 0, 3);
    }

    private static void theNextOneIsFirst() {
        PlaneColours x = star(5);
        x.remove(1);
        x.edge(0, 2, 0, NONE);
        row("before", round(x, 0), 0, 4, 2, 3);
        x.remove(0);
        row("the next one, not the next number", round(x, 0), 4, 2, 3);
        x.remove(4);
        row("again", round(x, 0), 2, 3);
        x.edge(1, 0, NONE, NONE);
        row("last is before that first one", round(x, 0), 2, 3, 5);
        x.remove(2);
        x.remove(3);
        row("one is left", round(x, 0), 5);
        x.remove(5);
        row("none is left", round(x, 0));
        x.edge(0, 1, NONE, NONE);
        row("a new first one", round(x, 0), 6);
    }

    private static void aLastOneGoes() {
        PlaneColours x = star(4);
        x.remove(2);
        row("the first one stays", round(x, 0), 0, 1);
        x.edge(0, 3, NONE, NONE);
        row("last", round(x, 0), 0, 1, 3);
        x.remove(1);
        row("one between goes", round(x, 0), 0, 3);
    }

    // ---- faces, parts, genus ----

    private static void eachEdgeHasTwoSides() {
        PlaneColours one = path(2);
        row("of one edge", ints(one.faces(), one.sides(0)), 1, 2);
        PlaneColours x = twistedK4();
        row("of six edges that are not plane", ints(x.faces(), x.sides(0), x.sides(1)), 2, 4, 8);
    }

    private static void leastSidesNumberTheFaces() {
        PlaneColours x = withEdges(7, e(4, 3), e(6, 5), e(2, 1));
        row("by edges, from their first ends", face(x, 0), 4, 3);
        row("by edges, from their first ends", face(x, 1), 6, 5);
        row("by edges, from their first ends", face(x, 2), 2, 1);
        x.remove(0);
        row("the next one is 0 now", face(x, 0), 6, 5);
        x.edge(3, 4, NONE, NONE);
        row("the new one comes last", face(x, 2), 3, 4);
        PlaneColours y = withEdges(3, e(1, 0), e(1, 2), e(2, 0));
        row("the side from the first end is less", face(y, 0), 1, 0, 2);
        row("the one back begins the other face", face(y, 1), 0, 1, 2);
    }

    private static void bareVerticesHaveNoNumberedFace() {
        PlaneColours x = vertices(2);
        is("no face has a number", x.faces(), 0);
        fails("none of number 0", BOUNDS, () -> x.sides(0));
        x.edge(1, 0, NONE, NONE);
        x.vertex();
        is("beside an edge", x.faces(), 1);
        fails("none of number 1", BOUNDS, () -> x.sides(1));
        x.remove(0);
        is("bare again", x.faces(), 0);
        fails("none any more", BOUNDS, () -> x.from(0, 0));
    }

    private static void bareVerticesCountForTheGenus() {
        is("of nothing", new PlaneColours().genus(), 0);
        is("of one vertex", vertices(1).genus(), 0);
        is("of 30 vertices", vertices(30).genus(), 0);
        PlaneColours x = twistedK4();
        is("not plane", x.genus(), 1);
        x.vertex();
        x.vertex();
        is("not plane, with bare vertices", x.genus(), 1);
    }

    private static void genusOfSeveralParts() {
        PlaneColours x = withEdges(9, e(0, 1), e(0, 2), e(0, 3), e(1, 2), e(1, 3), e(2, 3),
                e(4, 5), e(4, 6), e(4, 7), e(5, 6), e(5, 7), e(6, 7));
        row("each part adds its own", ints(x.parts(), x.genus(), x.told(2)), 3, 2, 0);
        x.remove(0);
        x.remove(5);
        row("one of them is plane", ints(x.parts(), x.genus(), x.told(2)), 3, 1, 0);
        x.remove(6);
        x.remove(11);
        row("genus 0 is plane", ints(x.parts(), x.genus(), x.told(2)), 3, 0, 1);
    }

    private static void aPartMayBeOneVertex() {
        row("none", ints(new PlaneColours().parts(), vertices(1).parts(), vertices(30).parts()), 0, 1, 30);
        row("all hang together", ints(path(30).parts(), star(30).parts()), 1, 1);
        PlaneColours x = path(3);
        x.remove(0);
        is("one fell off", x.parts(), 2);
    }

    // ---- colouring ----

    /** Six spokes: 1, next to 2, goes first. Five spokes: the middle goes first and is back last. */
    private static void fiveNeighboursAreFewEnough() {
        PlaneColours six = star(7);
        six.edge(1, 2, NONE, 1);
        is("six are too many", six.colour(), 3);
        row("1 is back last", colours(six), 2, 3, 1, 1, 1, 1, 1);
        PlaneColours five = star(6);
        five.edge(1, 2, NONE, 1);
        is("five are not", five.colour(), 3);
        row("0 is back last", colours(five), 3, 2, 1, 1, 1, 1);
    }

    /** Of 0 with seven neighbours two must go before it does: 1 and 2. */
    private static void neighboursThatAreLeftCount() {
        PlaneColours x = star(8);
        x.edge(3, 2, NONE, 1);
        x.edge(2, 1, 1, 0);
        is("plane", x.genus(), 0);
        is("colours", x.colour(), 3);
        row("back are 7 .. 3, 0, 2, 1", colours(x), 2, 1, 3, 1, 1, 1, 1, 1);
    }

    private static void noneIsLeft() {
        is("of nothing", new PlaneColours().colour(), 0);
        PlaneColours x = vertices(30);
        is("of 30 bare ones", x.colour(), 1);
        for (int v = 0; v < 30; v++) {
            is("colour of " + v, x.colourOf(v), 1);
        }
        PlaneColours long30 = path(30);
        is("of a path", long30.colour(), 2);
        row("its ends", ints(long30.colourOf(0), long30.colourOf(28), long30.colourOf(29)), 2, 2, 1);
    }

    /** 5, 4, 3 get 1, 2, 3; 2 is next to 1 and 3, 1 next to 2 alone, 0 next to 1 and 2. */
    private static void theLeastColourThatIsFree() {
        PlaneColours x = withRounds(
                new int[][] {{5, 4}, {4, 3}, {3, 5}, {2, 5}, {2, 3}, {1, 4}, {0, 5}, {0, 4}},
                ints(6, 7), ints(5), ints(3, 4), ints(1, 4, 2), ints(0, 7, 5, 1), ints(0, 2, 3, 6));
        is("plane", x.genus(), 0);
        is("colours", x.colour(), 3);
        row("the least free one", colours(x), 3, 1, 2, 3, 2, 1);
    }

    private static void fiveNeighboursWithoutAllFive() {
        PlaneColours x = star(6);
        x.edge(1, 2, NONE, 1);
        x.edge(2, 3, NONE, 2);
        x.edge(3, 4, NONE, 3);
        x.edge(4, 5, NONE, 4);
        x.edge(5, 1, NONE, 0);
        is("plane", x.genus(), 0);
        is("colours", x.colour(), 4);
        row("of the middle and the rim", colours(x), 4, 3, 2, 1, 2, 1);
        is("no chain", x.exchanges(), 0);
    }

    private static void firstAndThirdNeighbour() {
        PlaneColours x = firstPairGraph();
        is("colours", x.colour(), 5);
        row("1 and 7 change, 0 gets what 1 had", colours(x), 5, 1, 4, 2, 3, 1, 2, 5);
        is("chains", x.exchanges(), 1);
    }

    private static void secondAndFourthNeighbour() {
        PlaneColours x = secondPairGraph();
        is("colours", x.colour(), 5);
        row("3 and 6 change, 2 gets what 3 had", colours(x), 5, 4, 3, 2, 2, 1, 3, 1);
        is("chains", x.exchanges(), 1);
    }

    /**
     * Edge 0 goes and comes back to the same place of the ring: round 0 are now 4, 5, 3, 2, 1, with
     * 3, 1, 2, 4, 5. The chain of 4 by 3 and 2 has 3; that of 5 by 1 and 4 is 5 alone.
     */
    private static void theFirstNeighbourIsTheFirstOfTheOrder() {
        PlaneColours x = firstPairGraph();
        x.remove(0);
        x.edge(1, 0, 1, 8);
        row("round 0", round(x, 0), 16, 9, 4, 8, 18);
        is("plane", x.genus(), 0);
        is("colours", x.colour(), 5);
        row("5 changes, 0 gets what it had", colours(x), 1, 5, 4, 2, 3, 4, 2, 1);
        is("chains", x.exchanges(), 1);
    }

    /**
     * The graph of the first pair with each number one more, and 0 hanging first at 1: 0 is taken
     * before 1 and not back when 1 comes, so the five round 1 are those that stand behind it.
     */
    private static void aNeighbourThatIsNotBack() {
        PlaneColours x = withRounds(new int[][] {
            {0, 1}, {2, 1}, {2, 5}, {2, 3}, {3, 5}, {1, 4}, {2, 7}, {5, 8}, {4, 6}, {3, 1},
            {1, 6}, {4, 3}, {5, 6}, {2, 8}, {5, 4}, {7, 8}, {8, 3}, {5, 1}, {5, 7}},
            ints(0), ints(0, 1, 17, 10, 5, 9), ints(1, 3, 13, 6, 2), ints(3, 9, 11, 4, 16), ints(5, 8, 14, 11),
            ints(2, 18, 7, 4, 14, 12, 17), ints(8, 10, 12), ints(6, 15, 18), ints(7, 15, 13, 16));
        is("plane", x.genus(), 0);
        is("colours", x.colour(), 5);
        row("2 and 8 change, 1 gets what 2 had", colours(x), 1, 5, 1, 4, 2, 3, 1, 2, 5);
        is("chains", x.exchanges(), 1);
    }

    /** Colours of an earlier colour() are none of vertices that are not back. */
    private static void onlyVerticesThatAreBack() {
        PlaneColours x = firstPairGraph();
        x.colour();
        x.exchange(2, 1);
        x.exchange(6, 4);
        is("again", x.colour(), 5);
        row("as at first", colours(x), 5, 1, 4, 2, 3, 1, 2, 5);
        PlaneColours y = triangle();
        y.colour();
        y.exchange(2, 5);
        is("again", y.colour(), 3);
        row("as at first", colours(y), 3, 2, 1);
    }

    // ---- the tree, cycles and what they part ----

    private static void theLeastVertexOfEachPart() {
        PlaneColours x = withEdges(6, e(5, 3), e(3, 1), e(2, 4), e(1, 5));
        row("0 is alone, 1 3 5, 2 4", tree(x), NONE, NONE, NONE, 1, 2, 1);
        x.remove(1);
        row("5 is between", tree(x), NONE, NONE, NONE, 5, 2, 1);
        x.remove(3);
        row("1 is alone, 3 is least", tree(x), NONE, NONE, NONE, NONE, 2, 3);
    }

    /** 3 is next to 1 and 2: the one that stands first round 0 is above it. */
    private static void neighboursAsTheyStandRound() {
        PlaneColours x = withEdges(4, e(0, 2), e(0, 1), e(1, 3), e(2, 3));
        row("2 stands first", tree(x), NONE, 0, 0, 2);
        x.remove(0);
        x.edge(0, 2, NONE, NONE);
        row("the first went, 1 stands first", tree(x), NONE, 0, 0, 1);
        PlaneColours y = withEdges(5, e(0, 1), e(0, 2), e(0, 3), e(3, 4), e(2, 4));
        row("2 stands before 3", tree(y), NONE, 0, 0, 0, 2);
        y.remove(1);
        y.edge(0, 2, NONE, NONE);
        row("2 stands behind 3", tree(y), NONE, 0, 0, 0, 3);
    }

    private static void shortAndLongCycles() {
        is("three is the least", triangle().cycle(1), 3);
        PlaneColours x = ring(30);
        is("the way to 15 goes by 14", x.above(15), 14);
        row("all 30", ints(x.cycle(14), x.cycle(15), x.cycle(16)), 0, 30, 0);
        row("nothing inside or outside", ints(x.side(15, true), x.side(15, false)), 0, 0);
        is("the only one", x.best(), 15);
    }

    private static void waysMeetBelowTheRoot() {
        PlaneColours x = withEdges(5, e(0, 1), e(1, 2), e(2, 3), e(2, 4), e(3, 4));
        is("at 2, not at 0", x.cycle(4), 3);
        row("0 and 1 are not on it", ints(x.side(4, true), x.side(4, false)), 2, 0);
    }

    /** What was marked for one edge is none of the next one's. */
    private static void oneCycleAfterAnother() {
        PlaneColours x = planeK4();
        row("cycles", ints(x.cycle(1), x.cycle(4), x.cycle(5), x.cycle(1)), 3, 3, 3, 3);
        row("0 1 2 has 3 inside", ints(x.side(1, true), x.side(1, false)), 1, 0);
        row("0 1 3 has 2 outside", ints(x.side(4, true), x.side(4, false)), 0, 1);
        row("0 2 3 has 1 inside", ints(x.side(5, true), x.side(5, false)), 1, 0);
        row("0 1 2 as before", ints(x.side(1, true), x.side(1, false)), 1, 0);
        is("all are worth one and have three", x.best(), 1);
    }

    /**
     * Rows 0 1 2, 3 4 5, 6 7 8 with edges along and down; 9 hangs at 3 in the face 0 1 4 3, and 10 at
     * 6 in the face 3 4 7 6. Off the tree are 0 (3 to 4), 3 (4 to 5), 4 (6 to 7) and 5 (7 to 8).
     */
    private static void facesHangTogetherByOtherEdges() {
        PlaneColours x = withRounds(new int[][] {
            {3, 4}, {1, 2}, {0, 1}, {4, 5}, {6, 7}, {7, 8}, {0, 3}, {1, 4}, {2, 5}, {3, 6}, {4, 7}, {5, 8},
            {3, 9}, {6, 10}},
            ints(2, 6), ints(1, 7, 2), ints(1, 8), ints(0, 9, 6, 12), ints(0, 7, 3, 10), ints(3, 8, 11),
            ints(4, 9, 13), ints(4, 10, 5), ints(5, 11), ints(12), ints(13));
        row("the tree", tree(x), NONE, 0, 1, 0, 1, 2, 3, 4, 5, 3, 6);
        row("lengths", ints(x.cycle(0), x.cycle(3), x.cycle(4), x.cycle(5)), 4, 4, 6, 6);
        row("one face inside", ints(x.side(0, true), x.side(0, false)), 1, 6);
        row("this and another one", ints(x.side(4, true), x.side(4, false)), 2, 3);
        row("an empty face", ints(x.side(3, true), x.side(3, false)), 0, 7);
        row("two empty faces", ints(x.side(5, true), x.side(5, false)), 0, 5);
        is("three is the least worth", x.best(), 4);
    }

    /** The square 0 1 2 3 with an edge from 1 to 3, which is the last side of the face 1 2 3; 4 hangs at 0. */
    private static void facesHangTogetherByTheirLastSide() {
        PlaneColours x = withRounds(new int[][] {{1, 2}, {2, 3}, {0, 1}, {0, 3}, {1, 3}, {0, 4}},
                ints(2, 3, 5), ints(0, 2, 4), ints(0, 1), ints(1, 4, 3), ints(5));
        row("the face", face(x, 0), 1, 2, 3);
        row("4 is behind that side", ints(x.side(1, true), x.side(1, false)), 1, 0);
        row("and between 0, 1 and 3", ints(x.side(4, true), x.side(4, false)), 1, 1);
        is("the shorter one", x.best(), 4);
    }

    /** The path 3 .. 29 hangs in one face of the triangle, then in the other. */
    private static void allOrNothingInside() {
        PlaneColours in = hungInTriangle(0);
        row("all inside", ints(in.side(1, true), in.side(1, false)), 27, 0);
        PlaneColours out = hungInTriangle(1);
        row("all outside", ints(out.side(1, true), out.side(1, false)), 0, 27);
    }

    private static PlaneColours hungInTriangle(int behind) {
        PlaneColours x = triangle();
        x.vertex();
        x.edge(1, 3, behind, NONE);
        for (int v = 4; v < 30; v++) {
            x.vertex();
            x.edge(v - 1, v, NONE, NONE);
        }
        return x;
    }

    private static void insideIsAtTheSideFromTheFirstEnd() {
        PlaneColours x = withEdges(4, e(0, 1), e(1, 2), e(2, 0));
        x.edge(1, 3, 0, NONE);
        row("from 1 to 2", ints(x.side(1, true), x.side(1, false)), 1, 0);
        PlaneColours y = withEdges(4, e(0, 1), e(2, 1), e(2, 0));
        y.edge(1, 3, 0, NONE);
        row("from 2 to 1", ints(y.side(1, true), y.side(1, false)), 0, 1);
    }

    private static void otherPartsAndTheCycleCountForNone() {
        PlaneColours x = ring(5);
        row("only the cycle", ints(x.side(2, true), x.side(2, false)), 0, 0);
        for (int i = 0; i < 4; i++) {
            x.vertex();
        }
        x.edge(5, 6, NONE, NONE);
        row("other parts", ints(x.side(2, true), x.side(2, false)), 0, 0);
        x.edge(0, 5, NONE, NONE);
        is("now in its part", x.side(2, true) + x.side(2, false), 2);
    }

    /** Round the triangle 0 1 2 lie one and two, round the triangle 5 6 7 lies none and two. */
    private static void theGreaterSideIsTheWorth() {
        PlaneColours x = withEdges(11, e(0, 1), e(1, 2), e(2, 0), e(6, 7), e(7, 8), e(8, 6));
        x.edge(1, 3, 0, NONE);
        x.edge(1, 4, 1, NONE);
        x.edge(4, 5, NONE, NONE);
        x.edge(7, 9, 3, NONE);
        x.edge(9, 10, NONE, NONE);
        row("one and two", ints(x.side(1, true), x.side(1, false)), 1, 2);
        row("two and none", ints(x.side(4, true), x.side(4, false)), 2, 0);
        is("both are worth two: the least", x.best(), 1);
        x.remove(10);
        row("one and none", ints(x.side(4, true), x.side(4, false)), 1, 0);
        is("one is less than two", x.best(), 4);
    }

    // ---- what is refused ----

    private static void nothingThatIsNotThere() {
        PlaneColours x = triangle();
        x.remove(1);
        for (int v : ints(NONE, 3, LEAST, GREATEST)) {
            fails("vertex " + v, BOUNDS, () -> x.degree(v));
        }
        for (int edge : ints(NONE, 3, LEAST, GREATEST)) {
            fails("edge " + edge, BOUNDS, () -> x.end(edge, true));
        }
        fails("a gone edge", BOUNDS, () -> x.end(1, true));
        for (int face : ints(NONE, 1, LEAST, GREATEST)) {
            fails("face " + face, BOUNDS, () -> x.sides(face));
        }
        for (int side : ints(NONE, 4, LEAST, GREATEST)) {
            fails("side " + side, BOUNDS, () -> x.from(0, side));
        }
        for (int place : ints(NONE, 1, LEAST, GREATEST)) {
            fails("place " + place, BOUNDS, () -> x.round(1, place));
        }
    }

    private static void anotherNumberThatIsNotTold() {
        PlaneColours x = triangle();
        x.colour();
        for (int colour : ints(0, 6, NONE, LEAST, GREATEST)) {
            fails("colour " + colour, ARGUMENT, () -> x.exchange(0, colour));
        }
        row("1 and 5 are told", ints(x.exchange(0, 1), x.exchange(0, 5)), 2, 1);
    }

    private static void whatMustBePlane() {
        PlaneColours x = twistedK4();
        fails("colour", STATE, x::colour);
        fails("best", STATE, x::best);
        fails("side", STATE, () -> x.side(5, true));
        fails("side of a tree edge", STATE, () -> x.side(0, false));
        row("a cycle and the tree need no plane", ints(x.cycle(5), x.cycle(0), x.above(3)), 3, 0, 0);
        x.remove(4);
        x.remove(1);
        row("plane now", ints(x.genus(), x.colour(), x.best(), x.side(5, true)), 0, 2, 5, 0);
    }

    private static void noMoreThanThereMayBe() {
        PlaneColours x = withManyEdges(30, 100);
        fails("vertex", UNSUPPORTED, x::vertex);
        fails("edge", UNSUPPORTED, () -> x.edge(28, 29, NONE, NONE));
        x.clear();
        row("after clear there is room", ints(x.vertex(), x.vertex(), x.edge(0, 1, NONE, NONE)), 0, 1, 0);
    }

    private static void theFirstOfSeveral() {
        PlaneColours x = withManyEdges(15, 100);
        fails("no vertex; the same ends; full", BOUNDS, () -> x.edge(15, 15, NONE, NONE));
        fails("no edge for the second end; an edge is there; full", BOUNDS, () -> x.edge(0, 1, NONE, 100));
        fails("no edge for the first end; not round the second one", BOUNDS, () -> x.edge(9, 14, -2, 0));
        fails("not round the first end; no edge for the second one", BOUNDS, () -> x.edge(9, 14, 0, -2));
        fails("the same ends; full", ARGUMENT, () -> x.edge(0, 0, NONE, NONE));
        fails("an edge is there; full", ARGUMENT, () -> x.edge(0, 1, NONE, NONE));
        fails("not round the first end; full", ARGUMENT, () -> x.edge(9, 14, 0, NONE));
        fails("not round the second end; full", ARGUMENT, () -> x.edge(9, 14, NONE, 0));
        fails("no vertex; no colour", BOUNDS, () -> x.exchange(15, 9));
        fails("no edge; not plane", BOUNDS, () -> x.side(100, true));
        x.remove(0);
        fails("gone; not plane", BOUNDS, () -> x.side(0, true));
        fails("behind a gone one; not round that end", BOUNDS, () -> x.edge(9, 14, 0, NONE));
    }

    private static void testOrdersAndLimits() {
        sentence("An object is used for at most 512 calls after it has been made", TermsBoundaryTest::lastOf512Calls);
        sentence("VERTICES have numbers 0, 1, .., 30 at most", TermsBoundaryTest::thirtyVertices);
        sentence("EDGES 0, 1, .., 100 at most", TermsBoundaryTest::hundredEdges);
        sentence("as they come (also if some are gone)", TermsBoundaryTest::goneEdgesKeepTheirNumbers);
        sentence("100 at most, as they come (also if some are gone)",
                TermsBoundaryTest::goneEdgesCountAmongTheHundred);
        sentence("30 at most; 100 at most (all answers then)", TermsBoundaryTest::allAnswersWhenFull);
        sentence("no two have the same two", TermsBoundaryTest::noTwoEdgesHaveTheSameEnds);
        sentence("a new one comes behind one that is told, or last", TermsBoundaryTest::behindOneOrLast);
        sentence("behind the last comes the first again", TermsBoundaryTest::behindTheLastComesTheFirst);
        sentence("The order is one round", TermsBoundaryTest::lastAndBeforeTheFirstAreOnePlace);
        sentence("when the first one goes, the next one is first", TermsBoundaryTest::theNextOneIsFirst);
        sentence("ROUND a vertex its edges stand in an order", TermsBoundaryTest::aLastOneGoes);
    }

    private static void testFacesAndParts() {
        sentence("each edge has two, from its first end to its second, and back",
                TermsBoundaryTest::eachEdgeHasTwoSides);
        sentence("they are numbered by their least sides, these by their edges, the one from the first end before"
                + " the other; a face begins with its least side", TermsBoundaryTest::leastSidesNumberTheFaces);
        sentence("A vertex without edges has a face without sides, which has no number",
                TermsBoundaryTest::bareVerticesHaveNoNumberedFace);
        sentence("faces (with those without sides)", TermsBoundaryTest::bareVerticesCountForTheGenus);
        sentence("a graph of genus 0 is PLANE", TermsBoundaryTest::genusOfSeveralParts);
        sentence("PARTS are vertices that hang together by edges", TermsBoundaryTest::aPartMayBeOneVertex);
    }

    private static void testColouring() {
        sentence("the least vertex that is left with at most five neighbours left is taken",
                TermsBoundaryTest::fiveNeighboursAreFewEnough);
        sentence("at most five neighbours left", TermsBoundaryTest::neighboursThatAreLeftCount);
        sentence("till none is left; then all come back, the last one first", TermsBoundaryTest::noneIsLeft);
        sentence("it gets the least of 1 .. 5 that none of them has", TermsBoundaryTest::theLeastColourThatIsFree);
        sentence("If they have all five", TermsBoundaryTest::fiveNeighboursWithoutAllFive);
        sentence("If n2 is not among them, they change these two colours, and it gets the one that n0 had",
                TermsBoundaryTest::firstAndThirdNeighbour);
        sentence("Else the same with n1 and n3", TermsBoundaryTest::secondAndFourthNeighbour);
        sentence("these five, as they stand round it, the first one first, are n0 .. n4",
                TermsBoundaryTest::theFirstNeighbourIsTheFirstOfTheOrder);
        sentence("with neighbours that are back", TermsBoundaryTest::aNeighbourThatIsNotBack);
        sentence("all vertices that are back", TermsBoundaryTest::onlyVerticesThatAreBack);
    }

    private static void testTreeAndCycles() {
        sentence("of each part from its least vertex on", TermsBoundaryTest::theLeastVertexOfEachPart);
        sentence("a vertex's neighbours as they stand round it", TermsBoundaryTest::neighboursAsTheyStandRound);
        sentence("An edge that is not in it makes a CYCLE", TermsBoundaryTest::shortAndLongCycles);
        sentence("with the ways in the tree from its ends to where these meet",
                TermsBoundaryTest::waysMeetBelowTheRoot);
        sentence("An edge that is not in it makes a CYCLE (each its own)", TermsBoundaryTest::oneCycleAfterAnother);
        sentence("the faces of its part are in two groups, each hanging together by edges that are not of the cycle",
                TermsBoundaryTest::facesHangTogetherByOtherEdges);
        sentence("each hanging together by edges", TermsBoundaryTest::facesHangTogetherByTheirLastSide);
        sentence("A vertex of that part that is not on the cycle is inside, if a face that has a side from it is",
                TermsBoundaryTest::allOrNothingInside);
        sentence("INSIDE is the one that has the edge's side from its first end, OUTSIDE the other one",
                TermsBoundaryTest::insideIsAtTheSideFromTheFirstEnd);
        sentence("A vertex of that part that is not on the cycle",
                TermsBoundaryTest::otherPartsAndTheCycleCountForNone);
        sentence("The WORTH of the edge is the greater one of how many are inside, and outside",
                TermsBoundaryTest::theGreaterSideIsTheWorth);
    }

    private static void testRefusals() {
        sentence("IndexOutOfBounds: there is no such vertex, edge (or it is gone), face, side",
                TermsBoundaryTest::nothingThatIsNotThere);
        sentence("IllegalArgument: another number is none that is told",
                TermsBoundaryTest::anotherNumberThatIsNotTold);
        sentence("IllegalState: it is not plane", TermsBoundaryTest::whatMustBePlane);
        sentence("UnsupportedOperation: there would be more than there may be",
                TermsBoundaryTest::noMoreThanThereMayBe);
        sentence("Of several that a call names, the first one", TermsBoundaryTest::theFirstOfSeveral);
    }

    public static void main(String[] args) {
        testOrdersAndLimits();
        testFacesAndParts();
        testColouring();
        testTreeAndCycles();
        testRefusals();
        finish("all boundaries of the terms hold");
    }
}
