/**
 * For each promise its sentences that name a boundary case (empty, full, the least and the greatest,
 * refused), each with a test of its own whose answers are worked out by hand.
 */
public final class PromiseBoundaryTest extends Checks {
    private interface Call {
        int with(int number);
    }

    /** Neither the numbers just beyond what there is nor the farthest ones are there. */
    private static void noSuch(String what, int count, Call call) {
        for (int number : ints(NONE, -2, count, count + 1, LEAST, GREATEST)) {
            fails(what + " " + number, BOUNDS, () -> call.with(number));
        }
    }

    // ---- 1 and 2 ----

    private static void newObject() {
        isEmpty("new", new PlaneColours());
        PlaneColours other = planeK4();
        other.colour();
        isEmpty("new beside another", new PlaneColours());
        is("nothing to colour", new PlaneColours().colour(), 0);
    }

    private static void newVertex() {
        PlaneColours x = triangle();
        x.colour();
        is("number", x.vertex(), 3);
        row("bare, without a colour, a part of its own",
                ints(x.degree(3), x.colourOf(3), x.above(3), x.parts()), 0, 0, NONE, 2);
        row("the colours of others stay", colours(x), 3, 2, 1, 0);
    }

    private static void vertexWhenFull() {
        PlaneColours x = vertices(29);
        is("the last one", x.vertex(), 29);
        fails("one more", UNSUPPORTED, x::vertex);
        x.clear();
        is("the first one again", x.vertex(), 0);
    }

    // ---- 3 ----

    private static void newEdge() {
        PlaneColours x = vertices(4);
        is("the first number", x.edge(0, 3, NONE, NONE), 0);
        is("behind one at the second end alone", x.edge(1, 3, NONE, 0), 1);
        is("behind one at both ends", x.edge(1, 0, 1, 0), 2);
        row("round 0", round(x, 0), 0, 2);
        row("round 1", round(x, 1), 1, 2);
        row("round 3", round(x, 3), 0, 1);
        fails("behind the same one at both ends: they have it", ARGUMENT, () -> x.edge(3, 0, 0, 0));
    }

    private static void edgeWithoutVertex() {
        PlaneColours x = triangle();
        noSuch("first", 3, v -> x.edge(v, 0, NONE, NONE));
        noSuch("second", 3, v -> x.edge(0, v, NONE, NONE));
        noSuch("both", 3, v -> x.edge(v, v, NONE, NONE));
        fails("no vertex at all", BOUNDS, () -> new PlaneColours().edge(0, 1, NONE, NONE));
    }

    private static void edgeBehindNone() {
        PlaneColours x = path(4);
        for (int edge : ints(-2, 3, 4, LEAST, GREATEST)) {
            fails("behind " + edge + " round the first end", BOUNDS, () -> x.edge(0, 3, edge, NONE));
            fails("behind " + edge + " round the second end", BOUNDS, () -> x.edge(0, 3, NONE, edge));
        }
        x.remove(0);
        fails("behind a gone one round the first end", BOUNDS, () -> x.edge(0, 3, 0, NONE));
        fails("behind a gone one round the second end", BOUNDS, () -> x.edge(3, 0, NONE, 0));
        is("NONE is last", x.edge(0, 3, NONE, NONE), 3);
    }

    private static void edgeFromOneToItself() {
        PlaneColours x = triangle();
        fails("the least one", ARGUMENT, () -> x.edge(0, 0, NONE, NONE));
        fails("the greatest one", ARGUMENT, () -> x.edge(2, 2, 1, 2));
        fails("the only one", ARGUMENT, () -> vertices(1).edge(0, 0, NONE, NONE));
    }

    private static void edgeThatIsThere() {
        PlaneColours x = triangle();
        fails("as it is", ARGUMENT, () -> x.edge(2, 0, NONE, NONE));
        fails("the other way", ARGUMENT, () -> x.edge(0, 2, NONE, NONE));
        fails("with good edges to come behind", ARGUMENT, () -> x.edge(0, 2, 0, 1));
        x.remove(2);
        is("gone, so it may be there", x.edge(0, 2, 0, 1), 3);
    }

    /** Edge 0 is round 0 and 1, edge 1 round 2 and 3; vertex 4 is bare. */
    private static void edgeBehindOneElsewhere() {
        PlaneColours x = withEdges(5, e(0, 1), e(2, 3));
        fails("round the other end alone", ARGUMENT, () -> x.edge(0, 2, 1, NONE));
        fails("round the other end alone", ARGUMENT, () -> x.edge(0, 2, NONE, 0));
        fails("each round the other end", ARGUMENT, () -> x.edge(0, 2, 1, 0));
        fails("one of both", ARGUMENT, () -> x.edge(0, 2, 0, 0));
        fails("one of both", ARGUMENT, () -> x.edge(0, 2, 1, 1));
        fails("a bare first end", ARGUMENT, () -> x.edge(4, 0, 0, 0));
        fails("a bare second end", ARGUMENT, () -> x.edge(0, 4, 0, 0));
        is("round its own end", x.edge(0, 2, 0, 1), 2);
    }

    private static void edgeWhenFull() {
        PlaneColours x = withManyEdges(15, 99);
        is("the last one", x.edge(9, 14, NONE, NONE), 99);
        fails("one more", UNSUPPORTED, () -> x.edge(10, 14, NONE, NONE));
        x.remove(0);
        fails("one more for one that is gone", UNSUPPORTED, () -> x.edge(10, 14, NONE, NONE));
        is("edges", x.told(1), 99);
    }

    private static void edgeTakesColours() {
        PlaneColours x = withEdges(5, e(0, 1), e(1, 2));
        x.colour();
        fails("refused", ARGUMENT, () -> x.edge(1, 0, NONE, NONE));
        row("then they stay", colours(x), 1, 2, 1, 1, 1);
        x.edge(3, 4, NONE, NONE);
        row("all of them, of other parts too", colours(x), 0, 0, 0, 0, 0);
        is("none is there", x.told(3), 0);
    }

    // ---- 4 to 7 ----

    private static void removeDownToNone() {
        PlaneColours x = triangle();
        row("left", ints(x.remove(2), x.remove(0), x.remove(1)), 2, 1, 0);
        row("bare", ints(x.degree(0), x.degree(1), x.degree(2), x.parts(), x.faces()), 0, 0, 0, 3, 0);
    }

    private static void removeTakesColours() {
        PlaneColours x = withEdges(5, e(0, 1), e(1, 2), e(3, 4));
        x.colour();
        fails("refused", BOUNDS, () -> x.remove(3));
        row("then they stay", colours(x), 1, 2, 1, 2, 1);
        x.remove(2);
        row("all of them, of other parts too", colours(x), 0, 0, 0, 0, 0);
    }

    private static void removeWithoutEdge() {
        PlaneColours x = triangle();
        noSuch("edge", 3, x::remove);
        x.remove(1);
        fails("gone already", BOUNDS, () -> x.remove(1));
        fails("none at all", BOUNDS, () -> vertices(3).remove(0));
    }

    private static void degrees() {
        PlaneColours x = star(30);
        row("of the middle and of others", ints(x.degree(0), x.degree(1), x.degree(29)), 29, 1, 1);
        is("bare", vertices(1).degree(0), 0);
        noSuch("vertex", 30, x::degree);
        fails("none at all", BOUNDS, () -> new PlaneColours().degree(0));
    }

    private static void places() {
        PlaneColours x = star(30);
        row("the first and the last place", ints(x.round(0, 0), x.round(0, 28), x.round(29, 0)), 0, 28, 28);
        noSuch("place", 29, place -> x.round(0, place));
        noSuch("place", 1, place -> x.round(29, place));
        noSuch("vertex", 30, v -> x.round(v, 0));
        x.remove(28);
        noSuch("place of a bare one", 0, place -> x.round(29, place));
        fails("the last place went", BOUNDS, () -> x.round(0, 28));
    }

    private static void endsOfEdges() {
        PlaneColours x = withEdges(4, e(3, 0), e(1, 3), e(2, 1));
        row("of the least and of the greatest",
                ints(x.end(0, false), x.end(0, true), x.end(2, false), x.end(2, true)), 3, 0, 2, 1);
        noSuch("edge", 3, edge -> x.end(edge, false));
        noSuch("edge", 3, edge -> x.end(edge, true));
        x.remove(2);
        fails("gone", BOUNDS, () -> x.end(2, false));
        fails("gone", BOUNDS, () -> x.end(2, true));
    }

    // ---- 8 to 12 ----

    private static void numberedFaces() {
        row("none", ints(new PlaneColours().faces(), vertices(30).faces()), 0, 0);
        row("one, two, four", ints(path(30).faces(), ring(30).faces(), planeK4().faces()), 1, 2, 4);
        PlaneColours pairs = vertices(30);
        for (int v = 0; v < 30; v += 2) {
            pairs.edge(v, v + 1, NONE, NONE);
        }
        is("one for each part", pairs.faces(), 15);
    }

    private static void sidesOfFaces() {
        PlaneColours x = path(30);
        is("there and back", x.sides(0), 58);
        is("the least face", path(2).sides(0), 2);
        noSuch("face", 1, x::sides);
        fails("none at all", BOUNDS, () -> vertices(1).sides(0));
    }

    private static void startsOfSides() {
        PlaneColours x = path(30);
        row("the first, the farthest, the last", ints(x.from(0, 0), x.from(0, 29), x.from(0, 57)), 0, 29, 1);
        noSuch("side", 58, k -> x.from(0, k));
        noSuch("face", 1, face -> x.from(face, 0));
        fails("neither face nor side", BOUNDS, () -> x.from(1, 58));
    }

    private static void partsOfGraphs() {
        row("none, all alone, all in one", ints(new PlaneColours().parts(), vertices(30).parts(), ring(30).parts()),
                0, 30, 1);
        PlaneColours x = path(30);
        x.remove(14);
        is("cut in two", x.parts(), 2);
        x.edge(29, 0, NONE, NONE);
        is("one again", x.parts(), 1);
    }

    private static void leastAndGreatGenus() {
        row("0", ints(new PlaneColours().genus(), vertices(30).genus(), path(30).genus(), ring(30).genus()),
                0, 0, 0, 0);
        PlaneColours x = withManyEdges(15, 100);
        is("of 100 edges", 2 * x.genus(), 2 - 15 + 100 - x.faces());
        for (int edge = 0; edge < 100; edge++) {
            x.remove(edge);
        }
        is("0 again", x.genus(), 0);
    }

    // ---- 13 to 17 ----

    private static void howManyColours() {
        row("none, one, two, three",
                ints(new PlaneColours().colour(), vertices(30).colour(), path(30).colour(), triangle().colour()),
                0, 1, 2, 3);
        row("four and five", ints(planeK4().colour(), firstPairGraph().colour()), 4, 5);
    }

    private static void colourOfNoPlane() {
        PlaneColours x = twistedK4();
        fails("not plane", STATE, x::colour);
        row("no colours", colours(x), 0, 0, 0, 0);
        x.vertex();
        fails("with a bare vertex", STATE, x::colour);
    }

    private static void vertexWithoutColour() {
        PlaneColours x = path(2);
        row("before", colours(x), 0, 0);
        x.colour();
        x.vertex();
        row("a new one", colours(x), 2, 1, 0);
        noSuch("vertex", 3, x::colourOf);
        x.clear();
        x.vertex();
        row("after clear", colours(x), 0);
    }

    private static void exchangesOfTheLatest() {
        PlaneColours x = firstPairGraph();
        is("before", x.exchanges(), 0);
        x.colour();
        is("one", x.exchanges(), 1);
        x.colour();
        is("the latest alone", x.exchanges(), 1);
        x.exchange(0, 1);
        x.vertex();
        fails("refused", BOUNDS, () -> x.remove(18));
        is("none of these counts", x.exchanges(), 1);
    }

    private static void exchangesWhenColoursAreGone() {
        PlaneColours x = firstPairGraph();
        x.colour();
        x.remove(17);
        is("by remove", x.exchanges(), 0);
        x.edge(4, 6, 1, 14);
        x.colour();
        is("as before", x.exchanges(), 1);
        x.vertex();
        x.edge(6, 8, NONE, NONE);
        is("by edge", x.exchanges(), 0);
        x.colour();
        is("with 8 beside", x.exchanges(), 1);
        x.clear();
        is("by clear", x.exchanges(), 0);
    }

    private static void exchangeOfChains() {
        PlaneColours x = path(30);
        x.colour();
        is("all of them", x.exchange(0, 1), 30);
        row("changed", ints(x.colourOf(0), x.colourOf(1), x.colourOf(29)), 1, 2, 2);
        is("one alone, by a colour that is nowhere", x.exchange(15, 5), 1);
        row("it alone", ints(x.colourOf(14), x.colourOf(15), x.colourOf(16)), 1, 5, 1);
        is("only up to there", x.exchange(0, 2), 15);
        is("from there on", x.exchange(29, 1), 14);
        is("5 and 2 hang together there", x.exchange(15, 2), 3);
        PlaneColours two = path(2);
        two.colour();
        row("one chain after another", ints(two.exchange(0, 5), two.exchange(1, 5), two.exchange(0, 2)), 1, 2, 1);
    }

    private static void exchangeWithoutColour() {
        PlaneColours x = path(2);
        fails("before", ARGUMENT, () -> x.exchange(0, 1));
        x.colour();
        x.vertex();
        fails("a new one", ARGUMENT, () -> x.exchange(2, 1));
        is("the others may", x.exchange(1, 5), 1);
        x.remove(0);
        fails("gone", ARGUMENT, () -> x.exchange(0, 1));
    }

    private static void exchangeWithOtherNumbers() {
        PlaneColours x = triangle();
        x.colour();
        for (int colour : ints(LEAST, NONE, 0, 6, GREATEST)) {
            fails("colour " + colour, ARGUMENT, () -> x.exchange(1, colour));
        }
        fails("its own", ARGUMENT, () -> x.exchange(1, 2));
        noSuch("vertex", 3, v -> x.exchange(v, 1));
        row("nothing changed", colours(x), 3, 2, 1);
        row("the least and the greatest", ints(x.exchange(1, 1), x.exchange(1, 5)), 2, 1);
        row("changed", colours(x), 3, 5, 2);
    }

    private static void clashesOfColours() {
        PlaneColours x = path(3);
        is("0 is no colour", x.clashes(), 0);
        x.colour();
        is("coloured", x.clashes(), 0);
        x.exchange(1, 5);
        x.exchange(0, 5);
        row("exchanged", colours(x), 5, 1, 5);
        is("exchanged", x.clashes(), 0);
        is("no edges", vertices(2).clashes(), 0);
    }

    // ---- 18 to 21 ----

    private static void aboveTheLeast() {
        PlaneColours x = vertices(30);
        row("each is the least of its part", ints(x.above(0), x.above(29)), NONE, NONE);
        x.edge(29, 0, NONE, NONE);
        row("29 has 0 above it", ints(x.above(0), x.above(29)), NONE, 0);
        noSuch("vertex", 30, x::above);
        fails("none at all", BOUNDS, () -> new PlaneColours().above(0));
    }

    private static void cycleOfTreeEdges() {
        PlaneColours x = path(30);
        row("all are in the tree", ints(x.cycle(0), x.cycle(15), x.cycle(28)), 0, 0, 0);
        x.edge(29, 0, NONE, NONE);
        row("one is not", ints(x.cycle(14), x.cycle(15), x.cycle(16), x.cycle(29)), 0, 30, 0, 0);
        noSuch("edge", 30, x::cycle);
        x.remove(0);
        row("all are again", ints(x.cycle(1), x.cycle(15), x.cycle(29)), 0, 0, 0);
        fails("gone", BOUNDS, () -> x.cycle(0));
    }

    private static void sideOfTreeEdges() {
        PlaneColours x = planeK4();
        row("in the tree", ints(x.side(0, true), x.side(0, false), x.side(3, true), x.side(3, false)), 0, 0, 0, 0);
        row("not in it", ints(x.side(1, true), x.side(1, false)), 1, 0);
        noSuch("edge", 6, edge -> x.side(edge, true));
        noSuch("edge", 6, edge -> x.side(edge, false));
        x.remove(1);
        fails("gone", BOUNDS, () -> x.side(1, true));
    }

    private static void sideOfNoPlane() {
        PlaneColours x = withEdges(7, e(0, 1), e(0, 2), e(0, 3), e(1, 2), e(1, 3), e(2, 3),
                e(4, 5), e(5, 6), e(6, 4));
        fails("not in the tree", STATE, () -> x.side(5, true));
        fails("in the tree", STATE, () -> x.side(0, true));
        fails("of another part", STATE, () -> x.side(7, false));
        fails("no edge", BOUNDS, () -> x.side(9, false));
    }

    private static void bestOfNone() {
        row("nothing there", ints(new PlaneColours().best(), vertices(1).best(), path(30).best()), NONE, NONE, NONE);
        PlaneColours x = ring(3);
        is("one", x.best(), 1);
        x.remove(1);
        is("none any more", x.best(), NONE);
        fails("not plane", STATE, () -> twistedK4().best());
    }

    /** A square, then two triangles, each a part, with a vertex that hangs at one after the other. */
    private static void bestOfEquals() {
        PlaneColours x = withEdges(13, e(0, 1), e(1, 2), e(2, 3), e(3, 0),
                e(4, 5), e(5, 6), e(6, 4), e(7, 8), e(8, 9), e(9, 7));
        is("the shortest, of these the least", x.best(), 5);
        x.edge(4, 10, NONE, NONE);
        is("the least worth, then the shortest", x.best(), 8);
        x.edge(7, 11, NONE, NONE);
        is("the least worth though it is longer", x.best(), 2);
        x.edge(0, 12, NONE, NONE);
        is("equal again", x.best(), 5);
        x.remove(5);
        is("one that is left", x.best(), 8);
        is("also edge 0", withEdges(3, e(1, 2), e(0, 1), e(0, 2)).best(), 0);
    }

    // ---- 22 and 23 ----

    private static void toldNumbers() {
        row("of nothing", told(new PlaneColours()), 0, 0, 1, 0);
        row("of all there may be", told(withManyEdges(30, 100)), 30, 100, 0, 0);
        PlaneColours x = firstPairGraph();
        x.colour();
        row("five colours", told(x), 8, 18, 1, 5);
        x.clear();
        for (int what : ints(NONE, 4, LEAST, GREATEST)) {
            is("what " + what, x.told(what), NONE);
        }
    }

    private static void toldColoursOfNow() {
        PlaneColours x = path(3);
        is("before", x.told(3), 0);
        x.colour();
        is("two", x.told(3), 2);
        x.exchange(0, 5);
        is("three: 1, 2 and 5", x.told(3), 3);
        x.vertex();
        is("0 is none", x.told(3), 3);
        x.remove(0);
        is("gone", x.told(3), 0);
    }

    private static void clearOfAll() {
        PlaneColours x = withManyEdges(30, 100);
        x.clear();
        isEmpty("full", x);
        PlaneColours y = firstPairGraph();
        y.colour();
        y.clear();
        isEmpty("coloured", y);
        PlaneColours z = new PlaneColours();
        z.clear();
        isEmpty("empty", z);
        z.clear();
        isEmpty("cleared", z);
    }

    private static void clearThenAsNew() {
        PlaneColours x = withManyEdges(15, 100);
        x.remove(3);
        x.clear();
        for (int i = 0; i < 30; i++) {
            is("number", x.vertex(), i);
        }
        fails("one vertex more", UNSUPPORTED, x::vertex);
        row("bare", ints(x.degree(0), x.colourOf(0), x.above(14), x.parts(), x.faces()), 0, 0, NONE, 30, 0);
        for (int i = 0; i < 100; i++) {
            is("number", x.edge(i % 20, 20 + i / 20 * 2 + i % 2, NONE, NONE), i);
        }
        fails("one edge more", UNSUPPORTED, () -> x.edge(0, 1, NONE, NONE));
        row("an order without old ones", round(x, 0), 0, 20, 40, 60, 80);
    }

    private static void testMaking() {
        sentence("1: No vertices and no edges", PromiseBoundaryTest::newObject);
        sentence("2: A new vertex: its number", PromiseBoundaryTest::newVertex);
        sentence("2: throws UnsupportedOperationException", PromiseBoundaryTest::vertexWhenFull);
        sentence("3: A new edge: its number; behind an edge round each of its ends, or last (NONE)",
                PromiseBoundaryTest::newEdge);
        sentence("3: throws IndexOutOfBoundsException, of a vertex", PromiseBoundaryTest::edgeWithoutVertex);
        sentence("3: throws IndexOutOfBoundsException, of an edge", PromiseBoundaryTest::edgeBehindNone);
        sentence("3: IllegalArgument: both ends are the same", PromiseBoundaryTest::edgeFromOneToItself);
        sentence("3: IllegalArgument: both ends have an edge", PromiseBoundaryTest::edgeThatIsThere);
        sentence("3: or the edge behind which it should come is not round that end",
                PromiseBoundaryTest::edgeBehindOneElsewhere);
        sentence("3: throws UnsupportedOperationException", PromiseBoundaryTest::edgeWhenFull);
        sentence("3: Colours of vertices are gone: 0", PromiseBoundaryTest::edgeTakesColours);
        sentence("4: An edge goes: how many are left", PromiseBoundaryTest::removeDownToNone);
        sentence("4: and all colours", PromiseBoundaryTest::removeTakesColours);
        sentence("4: throws IndexOutOfBoundsException", PromiseBoundaryTest::removeWithoutEdge);
    }

    private static void testLookingUp() {
        sentence("5: How many edges a vertex has", PromiseBoundaryTest::degrees);
        sentence("6: The edge at a place of the order round a vertex", PromiseBoundaryTest::places);
        sentence("7: An end of an edge", PromiseBoundaryTest::endsOfEdges);
        sentence("8: How many faces have a number", PromiseBoundaryTest::numberedFaces);
        sentence("9: How many sides a face has", PromiseBoundaryTest::sidesOfFaces);
        sentence("10: The vertex from which side k of a face goes", PromiseBoundaryTest::startsOfSides);
        sentence("11: How many parts", PromiseBoundaryTest::partsOfGraphs);
        sentence("12: The genus", PromiseBoundaryTest::leastAndGreatGenus);
    }

    private static void testColours() {
        sentence("13: how many colours there are then", PromiseBoundaryTest::howManyColours);
        sentence("13: throws IllegalStateException", PromiseBoundaryTest::colourOfNoPlane);
        sentence("14: The colour of a vertex; 0 without", PromiseBoundaryTest::vertexWithoutColour);
        sentence("15: How many chains changed colours at the latest colour(); 0 before",
                PromiseBoundaryTest::exchangesOfTheLatest);
        sentence("15: and when colours are gone", PromiseBoundaryTest::exchangesWhenColoursAreGone);
        sentence("16: how many vertices it has", PromiseBoundaryTest::exchangeOfChains);
        sentence("16: IllegalArgument: the vertex has no colour", PromiseBoundaryTest::exchangeWithoutColour);
        sentence("16: the other one is not 1 .. 5, or its own", PromiseBoundaryTest::exchangeWithOtherNumbers);
        sentence("17: How many edges have ends of one colour (not 0)", PromiseBoundaryTest::clashesOfColours);
    }

    private static void testParting() {
        sentence("18: NONE for the least one of a part", PromiseBoundaryTest::aboveTheLeast);
        sentence("19: 0 if it is in the tree", PromiseBoundaryTest::cycleOfTreeEdges);
        sentence("20: 0 if it is in the tree", PromiseBoundaryTest::sideOfTreeEdges);
        sentence("20: throws IllegalStateException", PromiseBoundaryTest::sideOfNoPlane);
        sentence("21: NONE", PromiseBoundaryTest::bestOfNone);
        sentence("21: the one with the least worth; of these that with the shortest cycle; of these the least",
                PromiseBoundaryTest::bestOfEquals);
        sentence("22: NONE for another what", PromiseBoundaryTest::toldNumbers);
        sentence("22: colours that there are", PromiseBoundaryTest::toldColoursOfNow);
        sentence("23: No vertices", PromiseBoundaryTest::clearOfAll);
        sentence("23: as a new object", PromiseBoundaryTest::clearThenAsNew);
    }

    public static void main(String[] args) {
        testMaking();
        testLookingUp();
        testColours();
        testParting();
        finish("all boundaries of the promises hold");
    }
}
