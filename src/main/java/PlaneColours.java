/**
 * Graphs with an order of edges round each vertex: faces, genus, five colours and parting cycles.
 * All rows are made once with the object, so that no later call needs room of its own.
 */
public final class PlaneColours {
    public static final int NONE = -1;

    private static final int MOST_VERTICES = 30;
    private static final int MOST_EDGES = 100;
    private static final int MOST_SIDES = 2 * MOST_EDGES;
    private static final int COLOURS = 5;

    private final Graph graph;
    private final FaceRows faceRows;
    private final Tree tree;
    private final Colouring colouring;
    private final Parting parting;

    public PlaneColours() {
        graph = new Graph();
        faceRows = new FaceRows(graph);
        tree = new Tree(graph);
        colouring = new Colouring(graph);
        parting = new Parting(graph, faceRows, tree);
    }

    public int vertex() throws UnsupportedOperationException {
        if (graph.vertices >= MOST_VERTICES) {
            throw new UnsupportedOperationException("no more vertices");
        }
        int added = graph.addVertex();
        colouring.colourOfVertex[added] = 0;
        surveyAgain();
        return added;
    }

    public int edge(int first, int second, int behindFirst, int behindSecond)
            throws IndexOutOfBoundsException, IllegalArgumentException, UnsupportedOperationException {
        checkVertex(first);
        checkVertex(second);
        checkEdgeOrNone(behindFirst);
        checkEdgeOrNone(behindSecond);
        if (first == second || graph.areJoined(first, second)) {
            throw new IllegalArgumentException("ends are the same or have an edge");
        }
        if (!graph.mayFollow(first, behindFirst) || !graph.mayFollow(second, behindSecond)) {
            throw new IllegalArgumentException("the edge before it is not round that end");
        }
        if (graph.made >= MOST_EDGES) {
            throw new UnsupportedOperationException("no more edges");
        }
        int added = graph.addEdge(first, second, behindFirst, behindSecond);
        colouring.forget();
        surveyAgain();
        return added;
    }

    public int remove(int edge) throws IndexOutOfBoundsException {
        checkEdge(edge);
        graph.dropEdge(edge);
        colouring.forget();
        surveyAgain();
        return graph.left;
    }

    public int degree(int vertex) throws IndexOutOfBoundsException {
        checkVertex(vertex);
        return graph.degrees[vertex];
    }

    public int round(int vertex, int place) throws IndexOutOfBoundsException {
        checkVertex(vertex);
        if (place < 0 || place >= graph.degrees[vertex]) {
            throw new IndexOutOfBoundsException("no such place");
        }
        int side = graph.firstSide[vertex];
        for (int i = 0; i < place; i++) {
            side = graph.next[side];
        }
        return side / 2;
    }

    public int end(int edge, boolean second) throws IndexOutOfBoundsException {
        checkEdge(edge);
        return graph.start[second ? 2 * edge + 1 : 2 * edge];
    }

    public int faces() {
        return faceRows.count;
    }

    public int sides(int face) throws IndexOutOfBoundsException {
        checkFace(face);
        return faceRows.lengths[face];
    }

    public int from(int face, int k) throws IndexOutOfBoundsException {
        checkFace(face);
        if (k < 0 || k >= faceRows.lengths[face]) {
            throw new IndexOutOfBoundsException("no such side");
        }
        int side = faceRows.leastSide[face];
        for (int i = 0; i < k; i++) {
            side = graph.sideBehind(side);
        }
        return graph.start[side];
    }

    public int parts() {
        return tree.count;
    }

    public int genus() {
        int allFaces = faceRows.count + graph.lonelyVertices();
        return tree.count - (graph.vertices - graph.left + allFaces) / 2;
    }

    public int colour() throws IllegalStateException {
        checkPlane();
        colouring.colourAll();
        return colouring.coloursUsed();
    }

    public int colourOf(int vertex) throws IndexOutOfBoundsException {
        checkVertex(vertex);
        return colouring.colourOfVertex[vertex];
    }

    public int exchanges() {
        return colouring.chainsChanged;
    }

    public int exchange(int vertex, int other) throws IndexOutOfBoundsException, IllegalArgumentException {
        checkVertex(vertex);
        int own = colouring.colourOfVertex[vertex];
        if (own == 0) {
            throw new IllegalArgumentException("the vertex has no colour");
        }
        if (other < 1 || other > COLOURS || other == own) {
            throw new IllegalArgumentException("not another colour");
        }
        colouring.collectChain(vertex, other);
        colouring.swapChain(own, other);
        return colouring.chainSize;
    }

    public int clashes() {
        return colouring.equalEnds();
    }

    public int above(int vertex) throws IndexOutOfBoundsException {
        checkVertex(vertex);
        return tree.vertexAbove[vertex];
    }

    public int cycle(int edge) throws IndexOutOfBoundsException {
        checkEdge(edge);
        if (tree.holds(edge)) {
            return 0;
        }
        parting.markCycle(edge);
        return parting.cycleLength;
    }

    public int side(int edge, boolean inside) throws IndexOutOfBoundsException, IllegalStateException {
        checkEdge(edge);
        checkPlane();
        if (tree.holds(edge)) {
            return 0;
        }
        parting.partBy(edge);
        return inside ? parting.inside : parting.outside;
    }

    public int best() throws IllegalStateException {
        checkPlane();
        int found = NONE;
        int leastWorth = 0;
        int leastLength = 0;
        for (int edge = 0; edge < graph.made; edge++) {
            if (!graph.isHere[edge] || tree.holds(edge)) {
                continue;
            }
            parting.partBy(edge);
            int worth = Math.max(parting.inside, parting.outside);
            boolean better = worth < leastWorth
                    || (worth == leastWorth && parting.cycleLength < leastLength);
            if (found == NONE || better) {
                found = edge;
                leastWorth = worth;
                leastLength = parting.cycleLength;
            }
        }
        return found;
    }

    public int told(int what) {
        switch (what) {
            case 0:
                return graph.vertices;
            case 1:
                return graph.left;
            case 2:
                return isPlane() ? 1 : 0;
            case 3:
                return colouring.coloursUsed();
            default:
                return NONE;
        }
    }

    public void clear() {
        colouring.forget();
        graph.dropAll();
        surveyAgain();
    }

    // Faces and tree are kept up to date at each change, so that the questions only look them up.
    private void surveyAgain() {
        faceRows.survey();
        tree.survey();
    }

    private boolean isPlane() {
        return genus() == 0;
    }

    private void checkPlane() {
        if (!isPlane()) {
            throw new IllegalStateException("not plane");
        }
    }

    private void checkVertex(int vertex) {
        if (vertex < 0 || vertex >= graph.vertices) {
            throw new IndexOutOfBoundsException("no such vertex");
        }
    }

    private void checkEdge(int edge) {
        if (edge < 0 || edge >= graph.made || !graph.isHere[edge]) {
            throw new IndexOutOfBoundsException("no such edge");
        }
    }

    private void checkEdgeOrNone(int edge) {
        if (edge != NONE) {
            checkEdge(edge);
        }
    }

    private void checkFace(int face) {
        if (face < 0 || face >= faceRows.count) {
            throw new IndexOutOfBoundsException("no such face");
        }
    }

    /**
     * Edge e is held as its two sides: 2e from its first end, 2e + 1 from its second one. The sides
     * that start from a vertex stand in a ring, so that the order round it needs no special ends.
     */
    private static final class Graph {
        final int[] start = new int[MOST_SIDES];
        final int[] next = new int[MOST_SIDES];
        final int[] previous = new int[MOST_SIDES];
        final boolean[] isHere = new boolean[MOST_EDGES];
        final int[] firstSide = new int[MOST_VERTICES];
        final int[] degrees = new int[MOST_VERTICES];
        int vertices = 0;
        int made = 0;
        int left = 0;

        int addVertex() {
            int added = vertices;
            firstSide[added] = NONE;
            degrees[added] = 0;
            vertices++;
            return added;
        }

        int addEdge(int first, int second, int behindFirst, int behindSecond) {
            int added = made;
            isHere[added] = true;
            made++;
            left++;
            putSide(2 * added, first, behindFirst);
            putSide(2 * added + 1, second, behindSecond);
            return added;
        }

        private void putSide(int side, int vertex, int behindEdge) {
            start[side] = vertex;
            if (degrees[vertex] == 0) {
                firstSide[vertex] = side;
                next[side] = side;
                previous[side] = side;
            } else {
                // the last one is just before the first, since the order is a ring
                int before = behindEdge == NONE ? previous[firstSide[vertex]] : sideFrom(vertex, behindEdge);
                int after = next[before];
                link(before, side);
                link(side, after);
            }
            degrees[vertex]++;
        }

        void dropEdge(int edge) {
            takeSide(2 * edge);
            takeSide(2 * edge + 1);
            isHere[edge] = false;
            left--;
        }

        private void takeSide(int side) {
            int vertex = start[side];
            degrees[vertex]--;
            if (degrees[vertex] == 0) {
                firstSide[vertex] = NONE;
                return;
            }
            if (firstSide[vertex] == side) {
                firstSide[vertex] = next[side];
            }
            link(previous[side], next[side]);
        }

        private void link(int before, int after) {
            next[before] = after;
            previous[after] = before;
        }

        void dropAll() {
            vertices = 0;
            made = 0;
            left = 0;
        }

        int target(int side) {
            return start[side ^ 1];
        }

        /** The side that comes behind this one in their face. */
        int sideBehind(int side) {
            return next[side ^ 1];
        }

        private int sideFrom(int vertex, int edge) {
            return start[2 * edge] == vertex ? 2 * edge : 2 * edge + 1;
        }

        boolean mayFollow(int vertex, int edge) {
            return edge == NONE || start[2 * edge] == vertex || start[2 * edge + 1] == vertex;
        }

        boolean areJoined(int one, int other) {
            int side = firstSide[one];
            for (int i = 0; i < degrees[one]; i++) {
                if (target(side) == other) {
                    return true;
                }
                side = next[side];
            }
            return false;
        }

        int lonelyVertices() {
            int lonely = 0;
            for (int vertex = 0; vertex < vertices; vertex++) {
                if (degrees[vertex] == 0) {
                    lonely++;
                }
            }
            return lonely;
        }
    }

    private static final class FaceRows {
        final Graph graph;
        final int[] faceOfSide = new int[MOST_SIDES];
        final int[] leastSide = new int[MOST_SIDES];
        final int[] lengths = new int[MOST_SIDES];
        int count = 0;

        FaceRows(Graph graph) {
            this.graph = graph;
        }

        /** Sides are tried from the least one on: this alone numbers the faces as they should be. */
        void survey() {
            int allSides = 2 * graph.made;
            for (int side = 0; side < allSides; side++) {
                faceOfSide[side] = NONE;
            }
            count = 0;
            for (int side = 0; side < allSides; side++) {
                if (graph.isHere[side / 2] && faceOfSide[side] == NONE) {
                    walkFrom(side);
                }
            }
        }

        private void walkFrom(int least) {
            int side = least;
            int steps = 0;
            do {
                faceOfSide[side] = count;
                side = graph.sideBehind(side);
                steps++;
            } while (side != least && steps < MOST_SIDES);
            leastSide[count] = least;
            lengths[count] = steps;
            count++;
        }
    }

    /** The tree by width of each part. */
    private static final class Tree {
        final Graph graph;
        final int[] vertexAbove = new int[MOST_VERTICES];
        final int[] edgeAbove = new int[MOST_VERTICES];
        final int[] level = new int[MOST_VERTICES];
        final int[] partOf = new int[MOST_VERTICES];
        final int[] queue = new int[MOST_VERTICES];
        int reached = 0;
        int count = 0;

        Tree(Graph graph) {
            this.graph = graph;
        }

        void survey() {
            for (int vertex = 0; vertex < graph.vertices; vertex++) {
                partOf[vertex] = NONE;
            }
            count = 0;
            for (int vertex = 0; vertex < graph.vertices; vertex++) {
                if (partOf[vertex] == NONE) {
                    growFrom(vertex);
                    count++;
                }
            }
        }

        private void growFrom(int root) {
            reached = 0;
            reach(root, NONE, NONE, 0);
            for (int head = 0; head < reached && head < MOST_VERTICES; head++) {
                reachNeighbours(queue[head]);
            }
        }

        private void reachNeighbours(int vertex) {
            int side = graph.firstSide[vertex];
            for (int i = 0; i < graph.degrees[vertex]; i++) {
                int neighbour = graph.target(side);
                if (partOf[neighbour] == NONE) {
                    reach(neighbour, vertex, side / 2, level[vertex] + 1);
                }
                side = graph.next[side];
            }
        }

        private void reach(int vertex, int parent, int byEdge, int depth) {
            vertexAbove[vertex] = parent;
            edgeAbove[vertex] = byEdge;
            level[vertex] = depth;
            partOf[vertex] = count;
            queue[reached] = vertex;
            reached++;
        }

        boolean holds(int edge) {
            return edgeAbove[graph.start[2 * edge]] == edge || edgeAbove[graph.start[2 * edge + 1]] == edge;
        }
    }

    /** Colour 0 stands for a vertex that is not back yet, or without a colour. */
    private static final class Colouring {
        final Graph graph;
        final int[] colourOfVertex = new int[MOST_VERTICES];
        final boolean[] isTaken = new boolean[MOST_VERTICES];
        final int[] order = new int[MOST_VERTICES];
        final int[] fiveRound = new int[COLOURS];
        final boolean[] isInChain = new boolean[MOST_VERTICES];
        final int[] chain = new int[MOST_VERTICES];
        int chainSize = 0;
        int chainsChanged = 0;

        Colouring(Graph graph) {
            this.graph = graph;
        }

        void forget() {
            for (int vertex = 0; vertex < graph.vertices; vertex++) {
                colourOfVertex[vertex] = 0;
            }
            chainsChanged = 0;
        }

        void colourAll() {
            forget();
            int taken = takeAll();
            for (int i = taken - 1; i >= 0; i--) {
                bringBack(order[i]);
            }
        }

        private int takeAll() {
            for (int vertex = 0; vertex < graph.vertices; vertex++) {
                isTaken[vertex] = false;
            }
            int taken = 0;
            for (int i = 0; i < graph.vertices; i++) {
                int vertex = leastToTake();
                if (vertex != NONE) {
                    isTaken[vertex] = true;
                    order[taken] = vertex;
                    taken++;
                }
            }
            return taken;
        }

        private int leastToTake() {
            for (int vertex = 0; vertex < graph.vertices; vertex++) {
                if (!isTaken[vertex] && neighboursLeft(vertex) <= COLOURS) {
                    return vertex;
                }
            }
            return NONE;
        }

        private int neighboursLeft(int vertex) {
            int found = 0;
            int side = graph.firstSide[vertex];
            for (int i = 0; i < graph.degrees[vertex]; i++) {
                if (!isTaken[graph.target(side)]) {
                    found++;
                }
                side = graph.next[side];
            }
            return found;
        }

        private void bringBack(int vertex) {
            int free = leastFreeColour(vertex);
            colourOfVertex[vertex] = free != NONE ? free : colourFreedByChain(vertex);
        }

        private int leastFreeColour(int vertex) {
            int usedBits = 0;
            int side = graph.firstSide[vertex];
            for (int i = 0; i < graph.degrees[vertex]; i++) {
                usedBits |= 1 << colourOfVertex[graph.target(side)];
                side = graph.next[side];
            }
            for (int colour = 1; colour <= COLOURS; colour++) {
                if ((usedBits & (1 << colour)) == 0) {
                    return colour;
                }
            }
            return NONE;
        }

        /** In the plane a chain from n0 to n2 shuts n1 off from n3: so one of the two chains may change. */
        private int colourFreedByChain(int vertex) {
            listFiveRound(vertex);
            collectChain(fiveRound[0], colourOfVertex[fiveRound[2]]);
            int place = 0;
            if (isInChain[fiveRound[2]]) {
                place = 1;
                collectChain(fiveRound[1], colourOfVertex[fiveRound[3]]);
            }
            int freed = colourOfVertex[fiveRound[place]];
            swapChain(freed, colourOfVertex[fiveRound[place + 2]]);
            chainsChanged++;
            return freed;
        }

        private void listFiveRound(int vertex) {
            int listed = 0;
            int side = graph.firstSide[vertex];
            for (int i = 0; i < graph.degrees[vertex]; i++) {
                int neighbour = graph.target(side);
                if (colourOfVertex[neighbour] != 0 && listed < COLOURS) {
                    fiveRound[listed] = neighbour;
                    listed++;
                }
                side = graph.next[side];
            }
        }

        void collectChain(int from, int other) {
            for (int vertex = 0; vertex < graph.vertices; vertex++) {
                isInChain[vertex] = false;
            }
            int own = colourOfVertex[from];
            chainSize = 0;
            addToChain(from);
            for (int head = 0; head < chainSize && head < MOST_VERTICES; head++) {
                addNeighboursOf(chain[head], own, other);
            }
        }

        private void addNeighboursOf(int vertex, int own, int other) {
            int side = graph.firstSide[vertex];
            for (int i = 0; i < graph.degrees[vertex]; i++) {
                int neighbour = graph.target(side);
                int colour = colourOfVertex[neighbour];
                if (!isInChain[neighbour] && (colour == own || colour == other)) {
                    addToChain(neighbour);
                }
                side = graph.next[side];
            }
        }

        private void addToChain(int vertex) {
            isInChain[vertex] = true;
            chain[chainSize] = vertex;
            chainSize++;
        }

        void swapChain(int one, int other) {
            for (int i = 0; i < chainSize; i++) {
                int vertex = chain[i];
                colourOfVertex[vertex] = colourOfVertex[vertex] == one ? other : one;
            }
        }

        int coloursUsed() {
            int usedBits = 0;
            for (int vertex = 0; vertex < graph.vertices; vertex++) {
                usedBits |= 1 << colourOfVertex[vertex];
            }
            // bit 0 stands for no colour
            return Integer.bitCount(usedBits >> 1);
        }

        int equalEnds() {
            int found = 0;
            for (int edge = 0; edge < graph.made; edge++) {
                if (graph.isHere[edge]) {
                    int colour = colourOfVertex[graph.start[2 * edge]];
                    if (colour != 0 && colour == colourOfVertex[graph.start[2 * edge + 1]]) {
                        found++;
                    }
                }
            }
            return found;
        }
    }

    /** The cycle of an edge that is not in the tree, and what lies on either side of it. */
    private static final class Parting {
        final Graph graph;
        final FaceRows faceRows;
        final Tree tree;
        final boolean[] isOnCycle = new boolean[MOST_VERTICES];
        final boolean[] isCycleEdge = new boolean[MOST_EDGES];
        final boolean[] isFaceInside = new boolean[MOST_SIDES];
        final int[] queue = new int[MOST_SIDES];
        int queued = 0;
        int cycleLength = 0;
        int inside = 0;
        int outside = 0;

        Parting(Graph graph, FaceRows faceRows, Tree tree) {
            this.graph = graph;
            this.faceRows = faceRows;
            this.tree = tree;
        }

        void partBy(int edge) {
            markCycle(edge);
            markFacesInside(faceRows.faceOfSide[2 * edge]);
            countVertices(tree.partOf[graph.start[2 * edge]]);
        }

        void markCycle(int edge) {
            unmarkCycle();
            isCycleEdge[edge] = true;
            int one = graph.start[2 * edge];
            int other = graph.start[2 * edge + 1];
            for (int steps = 0; one != other && steps < MOST_VERTICES; steps++) {
                if (tree.level[one] >= tree.level[other]) {
                    one = climbFrom(one);
                } else {
                    other = climbFrom(other);
                }
            }
            isOnCycle[one] = true;
            cycleLength++;
        }

        private void unmarkCycle() {
            for (int vertex = 0; vertex < graph.vertices; vertex++) {
                isOnCycle[vertex] = false;
            }
            for (int edge = 0; edge < graph.made; edge++) {
                isCycleEdge[edge] = false;
            }
            cycleLength = 0;
        }

        private int climbFrom(int vertex) {
            isOnCycle[vertex] = true;
            isCycleEdge[tree.edgeAbove[vertex]] = true;
            cycleLength++;
            return tree.vertexAbove[vertex];
        }

        private void markFacesInside(int start) {
            for (int face = 0; face < faceRows.count; face++) {
                isFaceInside[face] = false;
            }
            queued = 0;
            addInside(start);
            for (int head = 0; head < queued && head < MOST_SIDES; head++) {
                addFacesBeside(queue[head]);
            }
        }

        private void addFacesBeside(int face) {
            int side = faceRows.leastSide[face];
            for (int i = 0; i < faceRows.lengths[face]; i++) {
                int beyond = faceRows.faceOfSide[side ^ 1];
                if (!isCycleEdge[side / 2] && !isFaceInside[beyond]) {
                    addInside(beyond);
                }
                side = graph.sideBehind(side);
            }
        }

        private void addInside(int face) {
            isFaceInside[face] = true;
            queue[queued] = face;
            queued++;
        }

        /** No cycle edge is at a vertex off the cycle: all its faces are in one group, any side tells. */
        private void countVertices(int part) {
            inside = 0;
            outside = 0;
            for (int vertex = 0; vertex < graph.vertices; vertex++) {
                if (tree.partOf[vertex] != part || isOnCycle[vertex]) {
                    continue;
                }
                if (isFaceInside[faceRows.faceOfSide[graph.firstSide[vertex]]]) {
                    inside++;
                } else {
                    outside++;
                }
            }
        }
    }
}
