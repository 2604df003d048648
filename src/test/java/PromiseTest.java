/** For each promise of the document runs whose answers are worked out by hand from its words. */
public final class PromiseTest extends Checks {
    private static void promise1New() {
        is("1 NONE", PlaneColours.NONE, -1);
        isEmpty("1 new", new PlaneColours());
        PlaneColours one = triangle();
        isEmpty("1 new beside another", new PlaneColours());
        is("1 the other one", one.told(1), 3);
        is("1 colour of nothing", new PlaneColours().colour(), 0);
    }

    private static void promise2Vertex() {
        PlaneColours x = new PlaneColours();
        for (int i = 0; i < 30; i++) {
            is("2 number", x.vertex(), i);
        }
        fails("2 one more than 30", UNSUPPORTED, x::vertex);
        is("2 nothing changed", x.told(0), 30);
        PlaneColours y = triangle();
        y.colour();
        is("2 number with edges there", y.vertex(), 3);
        row("2 colours stay, the new one has none", colours(y), 3, 2, 1, 0);
    }

    private static void promise3Edge() {
        PlaneColours x = vertices(6);
        is("3 number", x.edge(0, 1, NONE, NONE), 0);
        is("3 number", x.edge(0, 2, NONE, NONE), 1);
        is("3 behind the first", x.edge(3, 0, NONE, 0), 2);
        is("3 behind the last", x.edge(0, 4, 1, NONE), 3);
        row("3 order", round(x, 0), 0, 2, 1, 3);
        is("3 last", x.edge(0, 5, NONE, NONE), 4);
        row("3 order", round(x, 0), 0, 2, 1, 3, 4);
        row("3 behind at both ends", ints(x.edge(3, 4, 2, 3), x.edge(4, 1, 3, 0)), 5, 6);
        row("3 order", round(x, 4), 3, 6, 5);
        fails("3 same ends", ARGUMENT, () -> x.edge(2, 2, NONE, NONE));
        fails("3 edge there", ARGUMENT, () -> x.edge(0, 1, NONE, NONE));
        fails("3 edge there, other way", ARGUMENT, () -> x.edge(1, 0, NONE, NONE));
        fails("3 not round the first end", ARGUMENT, () -> x.edge(2, 5, 0, NONE));
        fails("3 not round the second end", ARGUMENT, () -> x.edge(2, 5, 1, 0));
        fails("3 not round a bare end", ARGUMENT, () -> vertexAndEdge(x, 0));
        fails("3 no first", BOUNDS, () -> x.edge(7, 0, NONE, NONE));
        fails("3 no second", BOUNDS, () -> x.edge(0, -1, NONE, NONE));
        fails("3 no edge to come behind", BOUNDS, () -> x.edge(2, 5, 7, NONE));
        fails("3 below NONE", BOUNDS, () -> x.edge(2, 5, NONE, -2));
        is("3 nothing changed", x.told(1), 7);
        x.remove(1);
        fails("3 behind a gone one", BOUNDS, () -> x.edge(0, 2, 1, NONE));
        is("3 number behind a gone one", x.edge(0, 2, 2, NONE), 7);
        row("3 order", round(x, 0), 0, 2, 7, 3, 4);
    }

    private static void vertexAndEdge(PlaneColours x, int behind) {
        int bare = x.vertex();
        x.edge(bare, 2, behind, NONE);
    }

    private static void promise3FirstOfSeveral() {
        PlaneColours x = triangle();
        fails("3 bounds before the same ends", BOUNDS, () -> x.edge(0, 0, 9, NONE));
        fails("3 bounds of the last number before an edge there", BOUNDS, () -> x.edge(0, 1, NONE, 9));
        fails("3 bounds of equal ends that are not there", BOUNDS, () -> x.edge(3, 3, NONE, NONE));
        fails("3 bounds before not round", BOUNDS, () -> x.edge(0, 3, 1, NONE));
        fails("3 far numbers", BOUNDS, () -> x.edge(Integer.MAX_VALUE, Integer.MIN_VALUE, NONE, NONE));
        fails("3 far edges", BOUNDS, () -> x.edge(0, 1, Integer.MIN_VALUE, Integer.MAX_VALUE));
    }

    private static void promise3Most() {
        PlaneColours x = vertices(16);
        int made = 0;
        for (int u = 0; u < 16 && made < 100; u++) {
            for (int v = u + 1; v < 16 && made < 100; v++) {
                is("3 number", x.edge(u, v, NONE, NONE), made);
                made++;
            }
        }
        fails("3 one more than 100", UNSUPPORTED, () -> x.edge(14, 15, NONE, NONE));
        fails("3 argument before that", ARGUMENT, () -> x.edge(0, 1, NONE, NONE));
        fails("3 bounds before that", BOUNDS, () -> x.edge(14, 16, NONE, NONE));
        is("3 nothing changed", x.told(1), 100);
        is("3 one goes", x.remove(99), 99);
        fails("3 the gone ones count", UNSUPPORTED, () -> x.edge(14, 15, NONE, NONE));
    }

    private static void promise3Colours() {
        PlaneColours x = withEdges(4, e(0, 1), e(1, 2), e(2, 0));
        x.colour();
        fails("3 a throw", ARGUMENT, () -> x.edge(0, 1, NONE, NONE));
        row("3 a throw leaves the colours", colours(x), 3, 2, 1, 1);
        x.edge(2, 3, NONE, NONE);
        row("3 colours are gone", colours(x), 0, 0, 0, 0);
        is("3 colours are gone", x.told(3), 0);
    }

    private static void promise4Remove() {
        PlaneColours x = withEdges(4, e(0, 1), e(0, 2), e(0, 3), e(1, 2));
        x.colour();
        fails("4 no edge", BOUNDS, () -> x.remove(4));
        fails("4 no edge", BOUNDS, () -> x.remove(NONE));
        row("4 a throw leaves the colours", colours(x), 3, 2, 1, 1);
        is("4 left", x.remove(0), 3);
        row("4 colours are gone", colours(x), 0, 0, 0, 0);
        row("4 the next one is first", round(x, 0), 1, 2);
        row("4 the next one is first", round(x, 1), 3);
        fails("4 gone already", BOUNDS, () -> x.remove(0));
        is("4 last of the order", x.remove(2), 2);
        row("4 order", round(x, 0), 1);
        is("4 the only one", x.remove(1), 1);
        row("4 order", round(x, 0));
        is("4 down to none", x.remove(3), 0);
        is("4 parts", x.parts(), 4);
        is("4 numbers go on", x.edge(0, 1, NONE, NONE), 4);
        row("4 order", round(x, 0), 4);
    }

    private static void promise5To7Lookups() {
        PlaneColours x = withEdges(4, e(2, 0), e(0, 1), e(1, 2));
        row("5 degree", ints(x.degree(0), x.degree(1), x.degree(2), x.degree(3)), 2, 2, 2, 0);
        fails("5 no vertex", BOUNDS, () -> x.degree(4));
        fails("5 no vertex", BOUNDS, () -> x.degree(-1));
        row("6 round", ints(x.round(0, 0), x.round(0, 1), x.round(2, 0), x.round(2, 1)), 0, 1, 0, 2);
        fails("6 no place", BOUNDS, () -> x.round(0, 2));
        fails("6 no place", BOUNDS, () -> x.round(0, -1));
        fails("6 no place at a bare one", BOUNDS, () -> x.round(3, 0));
        fails("6 no vertex", BOUNDS, () -> x.round(4, 0));
        fails("6 no vertex", BOUNDS, () -> x.round(Integer.MIN_VALUE, 0));
        row("7 end", ints(x.end(0, false), x.end(0, true), x.end(2, false), x.end(2, true)), 2, 0, 1, 2);
        fails("7 no edge", BOUNDS, () -> x.end(3, true));
        fails("7 no edge", BOUNDS, () -> x.end(NONE, false));
        x.remove(1);
        fails("7 gone", BOUNDS, () -> x.end(1, false));
    }

    private static void promise8To10Faces() {
        PlaneColours bare = vertices(2);
        is("8 faces without sides have no number", bare.faces(), 0);
        fails("9 no face", BOUNDS, () -> bare.sides(0));
        bare.edge(1, 0, NONE, NONE);
        is("8 of one edge", bare.faces(), 1);
        row("10 from the first end on", face(bare, 0), 1, 0);
        PlaneColours x = triangle();
        is("8 of a triangle", x.faces(), 2);
        row("10 face 0", face(x, 0), 0, 1, 2);
        row("10 face 1", face(x, 1), 1, 0, 2);
        fails("9 no face", BOUNDS, () -> x.sides(2));
        fails("9 no face", BOUNDS, () -> x.sides(-1));
        fails("10 no face", BOUNDS, () -> x.from(2, 0));
        fails("10 no face", BOUNDS, () -> x.from(Integer.MIN_VALUE, 0));
        fails("10 no side", BOUNDS, () -> x.from(0, 3));
        fails("10 no side", BOUNDS, () -> x.from(1, -1));
        x.remove(0);
        is("8 of a path", x.faces(), 1);
        row("10 begins with the least side that is left", face(x, 0), 1, 2, 0, 2);
    }

    private static void promise8To10Numbers() {
        PlaneColours k4 = planeK4();
        is("8 of K4", k4.faces(), 4);
        row("10 K4 face 0", face(k4, 0), 0, 1, 3);
        row("10 K4 face 1", face(k4, 1), 1, 0, 2);
        row("10 K4 face 2", face(k4, 2), 1, 2, 3);
        row("10 K4 face 3", face(k4, 3), 2, 0, 3);
        PlaneColours two = withEdges(5, e(3, 4), e(0, 1), e(1, 2), e(2, 0));
        row("10 by edges, not by vertices", face(two, 0), 3, 4);
        row("10 second part", face(two, 1), 0, 1, 2);
        row("10 second part", face(two, 2), 1, 0, 2);
        PlaneColours star = withEdges(4, e(0, 1), e(0, 2), e(0, 3));
        row("10 a star", face(star, 0), 0, 1, 0, 2, 0, 3);
        is("9 a star", star.sides(0), 6);
    }

    private static void promise11And12Parts() {
        PlaneColours x = vertices(5);
        row("11 and 12 bare", ints(x.parts(), x.genus()), 5, 0);
        x.edge(4, 0, NONE, NONE);
        x.edge(2, 3, NONE, NONE);
        row("11 and 12 two edges", ints(x.parts(), x.genus()), 3, 0);
        x.edge(3, 4, NONE, NONE);
        row("11 and 12 three edges", ints(x.parts(), x.genus()), 2, 0);
        x.remove(2);
        is("11 apart again", x.parts(), 3);
        is("12 plane K4", planeK4().genus(), 0);
        is("12 twisted K4", twistedK4().genus(), 1);
        PlaneColours two = withEdges(9, e(0, 1), e(0, 2), e(0, 3), e(1, 2), e(1, 3), e(2, 3),
                e(4, 5), e(4, 6), e(4, 7), e(5, 6), e(5, 7), e(6, 7));
        row("11 and 12 two twisted ones and a bare vertex", ints(two.parts(), two.genus()), 3, 2);
        two.remove(0);
        is("12 five edges of K4 in one face", two.genus(), 2);
        two.remove(5);
        is("12 a square is plane", two.genus(), 1);
    }

    private static void promise13And14Colour() {
        row("13 bare vertices", ints(vertices(3).colour(), vertices(1).colour()), 1, 1);
        PlaneColours x = path(4);
        row("14 none yet", colours(x), 0, 0, 0, 0);
        is("13 of a path", x.colour(), 2);
        row("14 of a path: the last one is back first", colours(x), 2, 1, 2, 1);
        PlaneColours y = planeK4();
        is("13 of K4", y.colour(), 4);
        row("14 of K4", colours(y), 4, 3, 2, 1);
        PlaneColours twisted = twistedK4();
        fails("13 not plane", STATE, twisted::colour);
        row("13 nothing changed", colours(twisted), 0, 0, 0, 0);
        fails("14 no vertex", BOUNDS, () -> y.colourOf(4));
        fails("14 no vertex", BOUNDS, () -> y.colourOf(-1));
        PlaneColours star = withEdges(8, e(0, 1), e(0, 2), e(0, 3), e(0, 4), e(0, 5), e(0, 6), e(0, 7));
        is("13 of a star", star.colour(), 2);
        row("14 of a star", colours(star), 2, 1, 1, 1, 1, 1, 1, 1);
    }

    /** A middle with six neighbours is taken only when one of these is gone, one with five at once. */
    private static void promise13TakenOrder() {
        PlaneColours x = withEdges(7, e(0, 1), e(0, 2), e(0, 3), e(0, 4), e(0, 5), e(0, 6));
        x.edge(1, 2, NONE, 1);
        is("13 of six spokes", x.colour(), 3);
        row("14 1 is taken first and so back last", colours(x), 2, 3, 1, 1, 1, 1, 1);
        PlaneColours y = withEdges(6, e(0, 1), e(0, 2), e(0, 3), e(0, 4), e(0, 5));
        y.edge(1, 2, NONE, 1);
        is("13 of five spokes", y.colour(), 3);
        row("14 0 is taken first and so back last", colours(y), 3, 2, 1, 1, 1, 1);
    }

    private static void promise13And15Chains() {
        PlaneColours x = firstPairGraph();
        is("15 before", x.exchanges(), 0);
        is("13 n0 and n2", x.colour(), 5);
        row("14 n0 and n2", colours(x), 5, 1, 4, 2, 3, 1, 2, 5);
        is("15 n0 and n2", x.exchanges(), 1);
        x.exchange(0, 1);
        is("15 an exchange does not count", x.exchanges(), 1);
        x.vertex();
        is("15 a vertex changes nothing", x.exchanges(), 1);
        fails("15 a throw changes nothing", BOUNDS, () -> x.remove(18));
        is("15 a throw changes nothing", x.exchanges(), 1);
        is("13 again", x.colour(), 5);
        is("15 only the latest counts", x.exchanges(), 1);
        x.remove(0);
        is("15 colours gone", x.exchanges(), 0);
        PlaneColours y = secondPairGraph();
        is("13 n1 and n3", y.colour(), 5);
        row("14 n1 and n3", colours(y), 5, 4, 3, 2, 2, 1, 3, 1);
        is("15 n1 and n3", y.exchanges(), 1);
        y.vertex();
        y.edge(8, 7, NONE, NONE);
        is("15 colours gone by an edge", y.exchanges(), 0);
        y.remove(16);
        y.colour();
        is("15 none at the latest", y.exchanges(), 0);
    }

    private static void promise16Exchange() {
        PlaneColours x = path(5);
        fails("16 no colour", ARGUMENT, () -> x.exchange(0, 1));
        x.colour();
        row("16 at first", colours(x), 1, 2, 1, 2, 1);
        is("16 the whole path", x.exchange(1, 1), 5);
        row("16 changed", colours(x), 2, 1, 2, 1, 2);
        is("16 alone", x.exchange(2, 5), 1);
        row("16 changed", colours(x), 2, 1, 5, 1, 2);
        is("16 up to the other colour", x.exchange(0, 1), 2);
        row("16 changed", colours(x), 1, 2, 5, 1, 2);
        is("16 from the middle", x.exchange(2, 1), 2);
        row("16 changed", colours(x), 1, 2, 1, 5, 2);
        is("16 colours that there are", x.told(3), 3);
        fails("16 its own", ARGUMENT, () -> x.exchange(3, 5));
        fails("16 colour 0", ARGUMENT, () -> x.exchange(3, 0));
        fails("16 colour 6", ARGUMENT, () -> x.exchange(3, 6));
        fails("16 colour far off", ARGUMENT, () -> x.exchange(3, Integer.MIN_VALUE));
        fails("16 no vertex", BOUNDS, () -> x.exchange(5, 1));
        fails("16 no vertex comes first", BOUNDS, () -> x.exchange(-1, 9));
        x.vertex();
        fails("16 a new vertex", ARGUMENT, () -> x.exchange(5, 1));
        row("16 nothing changed", colours(x), 1, 2, 1, 5, 2, 0);
    }

    private static void promise17Clashes() {
        PlaneColours x = firstPairGraph();
        is("17 without colours", x.clashes(), 0);
        x.colour();
        is("17 coloured", x.clashes(), 0);
        for (int vertex = 0; vertex < 8; vertex++) {
            for (int colour = 1; colour <= 5; colour++) {
                if (colour != x.colourOf(vertex)) {
                    x.exchange(vertex, colour);
                    is("17 exchanged", x.clashes(), 0);
                }
            }
        }
    }

    private static void promise18Above() {
        PlaneColours x = withEdges(5, e(0, 2), e(0, 1), e(1, 3), e(2, 3));
        row("18 2 stands before 1 round 0", tree(x), NONE, 0, 0, 2, NONE);
        PlaneColours y = withEdges(4, e(0, 1), e(0, 2), e(1, 3), e(2, 3));
        row("18 1 stands before 2 round 0", tree(y), NONE, 0, 0, 1);
        y.remove(0);
        row("18 the tree is that of now", tree(y), NONE, 3, 0, 2);
        PlaneColours z = withEdges(6, e(5, 3), e(3, 1), e(2, 4), e(1, 5));
        row("18 from the least one of each part", tree(z), NONE, NONE, NONE, 1, 2, 1);
        PlaneColours w = withEdges(5, e(0, 1), e(1, 2), e(2, 3), e(3, 4), e(4, 0));
        row("18 by width, not by depth", tree(w), NONE, 0, 1, 4, 0);
        row("18 not plane", tree(twistedK4()), NONE, 0, 0, 0);
        fails("18 no vertex", BOUNDS, () -> w.above(5));
        fails("18 no vertex", BOUNDS, () -> w.above(-1));
    }

    private static void promise19Cycle() {
        PlaneColours x = withEdges(6, e(0, 1), e(1, 2), e(1, 3), e(2, 3), e(3, 4), e(4, 0), e(4, 5));
        row("19 in the tree", ints(x.cycle(0), x.cycle(1), x.cycle(2), x.cycle(5), x.cycle(6)), 0, 0, 0, 0, 0);
        is("19 they meet below the root", x.cycle(3), 3);
        is("19 they meet at the root", x.cycle(4), 4);
        fails("19 no edge", BOUNDS, () -> x.cycle(7));
        fails("19 no edge", BOUNDS, () -> x.cycle(NONE));
        x.remove(1);
        is("19 in the tree now", x.cycle(3), 0);
        fails("19 gone", BOUNDS, () -> x.cycle(1));
        PlaneColours square = withEdges(4, e(0, 1), e(1, 2), e(2, 3), e(3, 0));
        row("19 of a square", ints(square.cycle(0), square.cycle(1), square.cycle(2), square.cycle(3)), 0, 0, 4, 0);
        is("19 not plane", twistedK4().cycle(5), 3);
    }

    /** The triangle's edge 1 goes from 1 to 2 along its face 0, 1, 2. */
    private static void promise20Side() {
        PlaneColours x = triangle();
        row("20 nothing else there", ints(x.side(1, true), x.side(1, false)), 0, 0);
        x.vertex();
        x.edge(1, 3, 0, NONE);
        row("20 one in the face of the side", ints(x.side(1, true), x.side(1, false)), 1, 0);
        x.vertex();
        x.edge(1, 4, 1, NONE);
        x.vertex();
        x.edge(4, 5, NONE, NONE);
        row("20 two on the other side", ints(x.side(1, true), x.side(1, false)), 1, 2);
        x.vertex();
        x.vertex();
        x.edge(6, 7, NONE, NONE);
        row("20 another part counts for none", ints(x.side(1, true), x.side(1, false)), 1, 2);
        row("20 in the tree", ints(x.side(0, true), x.side(0, false)), 0, 0);
        fails("20 no edge", BOUNDS, () -> x.side(7, true));
        fails("20 no edge", BOUNDS, () -> x.side(NONE, false));
        PlaneColours back = withEdges(3, e(0, 1), e(2, 1), e(2, 0));
        back.vertex();
        back.edge(1, 3, 0, NONE);
        row("20 the edge the other way", ints(back.side(1, true), back.side(1, false)), 0, 1);
    }

    private static void promise20NotPlane() {
        PlaneColours x = twistedK4();
        fails("20 not plane", STATE, () -> x.side(5, true));
        fails("20 not plane, in the tree", STATE, () -> x.side(0, false));
        fails("20 no edge comes first", BOUNDS, () -> x.side(6, true));
        PlaneColours y = withEdges(7, e(0, 1), e(0, 2), e(0, 3), e(1, 2), e(1, 3), e(2, 3),
                e(4, 5), e(5, 6), e(6, 4));
        fails("20 another part is not plane", STATE, () -> y.side(7, true));
        PlaneColours k4 = planeK4();
        row("20 K4, 0 1 2 round 3", ints(k4.side(1, true), k4.side(1, false)), 1, 0);
        row("20 K4, 0 1 3", ints(k4.side(4, true), k4.side(4, false)), 0, 1);
        row("20 K4, 0 2 3", ints(k4.side(5, true), k4.side(5, false)), 1, 0);
    }

    private static void promise21Best() {
        is("21 no edges", vertices(3).best(), NONE);
        is("21 a tree alone", path(4).best(), NONE);
        fails("21 not plane", STATE, () -> twistedK4().best());
        PlaneColours x = withEdges(13, e(0, 1), e(1, 2), e(2, 3), e(3, 0),
                e(4, 5), e(5, 6), e(6, 4), e(7, 8), e(8, 9), e(9, 7));
        is("21 of equal worth the shortest, of these the least", x.best(), 5);
        x.edge(4, 10, NONE, NONE);
        is("21 the worth comes first", x.best(), 8);
        x.edge(7, 11, NONE, NONE);
        is("21 the worth comes before the length", x.best(), 2);
        x.edge(0, 12, NONE, NONE);
        is("21 all have worth 1", x.best(), 5);
        PlaneColours y = triangle();
        y.vertex();
        y.vertex();
        y.edge(1, 3, 0, NONE);
        y.edge(1, 4, 1, NONE);
        y.vertex();
        y.vertex();
        y.vertex();
        y.edge(5, 6, NONE, NONE);
        y.edge(6, 7, NONE, NONE);
        y.edge(7, 5, NONE, NONE);
        y.vertex();
        y.edge(5, 8, NONE, NONE);
        is("21 one on each side is worth one, not two", y.best(), 1);
        y.vertex();
        y.edge(1, 9, 0, NONE);
        is("21 the greater side counts", y.best(), 6);
    }

    private static void promise22Told() {
        PlaneColours x = triangle();
        x.vertex();
        row("22 told", ints(x.told(0), x.told(1), x.told(2), x.told(3)), 4, 3, 1, 0);
        x.colour();
        is("22 colours", x.told(3), 3);
        x.exchange(3, 5);
        is("22 another colour", x.told(3), 4);
        x.remove(1);
        row("22 told", ints(x.told(0), x.told(1), x.told(2), x.told(3)), 4, 2, 1, 0);
        is("22 not plane", twistedK4().told(2), 0);
        row("22 another what", ints(x.told(-1), x.told(4), x.told(Integer.MAX_VALUE), x.told(Integer.MIN_VALUE)),
                NONE, NONE, NONE, NONE);
    }

    private static void promise23Clear() {
        PlaneColours x = firstPairGraph();
        x.colour();
        x.clear();
        isEmpty("23 cleared", x);
        is("23 numbers begin again", x.vertex(), 0);
        row("23 as new", ints(x.degree(0), x.colourOf(0), x.above(0)), 0, 0, NONE);
        x.vertex();
        is("23 numbers begin again", x.edge(1, 0, NONE, NONE), 0);
        row("23 as new", face(x, 0), 1, 0);
        PlaneColours y = new PlaneColours();
        y.clear();
        isEmpty("23 nothing to clear", y);
    }

    public static void main(String[] args) {
        promise1New();
        promise2Vertex();
        promise3Edge();
        promise3FirstOfSeveral();
        promise3Most();
        promise3Colours();
        promise4Remove();
        promise5To7Lookups();
        promise8To10Faces();
        promise8To10Numbers();
        promise11And12Parts();
        promise13And14Colour();
        promise13TakenOrder();
        promise13And15Chains();
        promise16Exchange();
        promise17Clashes();
        promise18Above();
        promise19Cycle();
        promise20Side();
        promise20NotPlane();
        promise21Best();
        promise22Told();
        promise23Clear();
        finish("all promises hold");
    }
}
