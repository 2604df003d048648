import java.util.ArrayDeque;
import java.util.ArrayList;
import java.util.Arrays;
import java.util.Collections;
import java.util.HashSet;
import java.util.LinkedHashSet;
import java.util.List;
import java.util.Random;
import java.util.Set;
import java.util.TreeSet;
import java.util.function.IntSupplier;

/**
 * Long runs of calls, with wrong arguments among them, on the class and on a slow model that is
 * written from the document alone, with other means than the class: every answer is compared.
 * The seeds are fixed, so each run is the same one each time.
 */
public final class ModelTest {
    private static final int MOST_CALLS = 512;
    private static final int BOUNDS = -1001;
    private static final int ARGUMENT = -1002;
    private static final int STATE = -1003;
    private static final int UNSUPPORTED = -1004;

    private static int wrong = 0;

    // ---- the model ----

    private static final class Model {
        final List<int[]> ends = new ArrayList<>();
        final List<List<Integer>> rounds = new ArrayList<>();
        int[] colours = new int[0];
        int changed = 0;
        int firstPairChanges = 0;
        int secondPairChanges = 0;

        boolean noVertex(int v) {
            return v < 0 || v >= rounds.size();
        }

        boolean noEdge(int e) {
            return e < 0 || e >= ends.size() || ends.get(e) == null;
        }

        int other(int e, int v) {
            int[] two = ends.get(e);
            return two[0] == v ? two[1] : two[0];
        }

        List<Integer> neighbours(int v) {
            List<Integer> all = new ArrayList<>();
            for (int e : rounds.get(v)) {
                all.add(other(e, v));
            }
            return all;
        }

        int vertex() {
            if (rounds.size() == 30) {
                return UNSUPPORTED;
            }
            rounds.add(new ArrayList<>());
            colours = Arrays.copyOf(colours, rounds.size());
            return rounds.size() - 1;
        }

        int edge(int u, int v, int behindU, int behindV) {
            if (noVertex(u) || noVertex(v) || (behindU != -1 && noEdge(behindU)) || (behindV != -1 && noEdge(behindV))) {
                return BOUNDS;
            }
            if (u == v || neighbours(u).contains(v)
                    || (behindU != -1 && !rounds.get(u).contains(behindU))
                    || (behindV != -1 && !rounds.get(v).contains(behindV))) {
                return ARGUMENT;
            }
            if (ends.size() == 100) {
                return UNSUPPORTED;
            }
            int e = ends.size();
            ends.add(new int[] {u, v});
            put(u, e, behindU);
            put(v, e, behindV);
            uncolour();
            return e;
        }

        private void put(int v, int e, int behind) {
            List<Integer> round = rounds.get(v);
            round.add(behind == -1 ? round.size() : round.indexOf(behind) + 1, e);
        }

        private void uncolour() {
            colours = new int[rounds.size()];
            changed = 0;
        }

        int remove(int e) {
            if (noEdge(e)) {
                return BOUNDS;
            }
            for (int v : ends.get(e)) {
                rounds.get(v).remove((Integer) e);
            }
            ends.set(e, null);
            uncolour();
            return edges();
        }

        int edges() {
            int n = 0;
            for (int[] two : ends) {
                n += two == null ? 0 : 1;
            }
            return n;
        }

        int round(int v, int place) {
            return noVertex(v) || place < 0 || place >= rounds.get(v).size() ? BOUNDS : rounds.get(v).get(place);
        }

        // a side is {edge, vertex it goes from}
        List<List<int[]>> faces() {
            List<List<int[]>> all = new ArrayList<>();
            Set<String> seen = new HashSet<>();
            for (int e = 0; e < ends.size(); e++) {
                if (ends.get(e) == null) {
                    continue;
                }
                for (int from : ends.get(e)) {
                    if (seen.contains(e + ":" + from)) {
                        continue;
                    }
                    List<int[]> row = new ArrayList<>();
                    int edge = e;
                    int at = from;
                    while (seen.add(edge + ":" + at)) {
                        row.add(new int[] {edge, at});
                        at = other(edge, at);
                        List<Integer> round = rounds.get(at);
                        edge = round.get((round.indexOf(edge) + 1) % round.size());
                    }
                    all.add(row);
                }
            }
            return all;
        }

        int sides(int f) {
            List<List<int[]>> all = faces();
            return f < 0 || f >= all.size() ? BOUNDS : all.get(f).size();
        }

        int from(int f, int k) {
            List<List<int[]>> all = faces();
            return f < 0 || f >= all.size() || k < 0 || k >= all.get(f).size() ? BOUNDS : all.get(f).get(k)[1];
        }

        Set<Integer> partOf(int v) {
            Set<Integer> part = new TreeSet<>();
            spread(v, part);
            return part;
        }

        private void spread(int v, Set<Integer> part) {
            if (part.add(v)) {
                for (int w : neighbours(v)) {
                    spread(w, part);
                }
            }
        }

        int parts() {
            Set<Set<Integer>> all = new HashSet<>();
            for (int v = 0; v < rounds.size(); v++) {
                all.add(partOf(v));
            }
            return all.size();
        }

        int genus() {
            int allFaces = faces().size();
            for (List<Integer> round : rounds) {
                allFaces += round.isEmpty() ? 1 : 0;
            }
            return (2 * parts() - rounds.size() + edges() - allFaces) / 2;
        }

        boolean plane() {
            return genus() == 0;
        }

        int usedColours() {
            Set<Integer> used = new HashSet<>();
            for (int c : colours) {
                used.add(c);
            }
            used.remove(0);
            return used.size();
        }

        int colour() {
            if (!plane()) {
                return STATE;
            }
            uncolour();
            List<Integer> taken = new ArrayList<>();
            TreeSet<Integer> left = new TreeSet<>();
            for (int v = 0; v < rounds.size(); v++) {
                left.add(v);
            }
            while (!left.isEmpty()) {
                for (int v : left) {
                    List<Integer> near = neighbours(v);
                    near.retainAll(left);
                    if (near.size() <= 5) {
                        taken.add(v);
                        left.remove(v);
                        break;
                    }
                }
            }
            Collections.reverse(taken);
            for (int v : taken) {
                colours[v] = colourFor(v);
            }
            return usedColours();
        }

        private int colourFor(int v) {
            List<Integer> n = neighbours(v);
            n.removeIf(w -> colours[w] == 0);
            TreeSet<Integer> free = new TreeSet<>(List.of(1, 2, 3, 4, 5));
            for (int w : n) {
                free.remove(colours[w]);
            }
            if (!free.isEmpty()) {
                return free.first();
            }
            for (int i = 0; i < 2; i++) {
                int freed = colours[n.get(i)];
                Set<Integer> chain = chain(n.get(i), colours[n.get(i + 2)]);
                if (!chain.contains(n.get(i + 2))) {
                    flip(chain, freed, colours[n.get(i + 2)]);
                    changed++;
                    firstPairChanges += 1 - i;
                    secondPairChanges += i;
                    return freed;
                }
            }
            throw new AssertionError("both chains go through: not plane");
        }

        private Set<Integer> chain(int v, int second) {
            Set<Integer> found = new LinkedHashSet<>();
            link(v, colours[v], second, found);
            return found;
        }

        private void link(int v, int one, int two, Set<Integer> found) {
            if ((colours[v] == one || colours[v] == two) && found.add(v)) {
                for (int w : neighbours(v)) {
                    link(w, one, two, found);
                }
            }
        }

        private void flip(Set<Integer> chain, int one, int two) {
            for (int v : chain) {
                colours[v] = one + two - colours[v];
            }
        }

        int exchange(int v, int c) {
            if (noVertex(v)) {
                return BOUNDS;
            }
            if (colours[v] == 0 || c < 1 || c > 5 || c == colours[v]) {
                return ARGUMENT;
            }
            Set<Integer> chain = chain(v, c);
            flip(chain, colours[v], c);
            return chain.size();
        }

        int clashes() {
            int n = 0;
            for (int[] two : ends) {
                n += two != null && colours[two[0]] != 0 && colours[two[0]] == colours[two[1]] ? 1 : 0;
            }
            return n;
        }

        int[] tree() {
            int[] up = new int[rounds.size()];
            Arrays.fill(up, -2);
            for (int root = 0; root < up.length; root++) {
                if (up[root] != -2) {
                    continue;
                }
                up[root] = -1;
                ArrayDeque<Integer> wait = new ArrayDeque<>(List.of(root));
                while (!wait.isEmpty()) {
                    int v = wait.poll();
                    for (int w : neighbours(v)) {
                        if (up[w] == -2) {
                            up[w] = v;
                            wait.add(w);
                        }
                    }
                }
            }
            return up;
        }

        List<Integer> wayUp(int v) {
            int[] up = tree();
            List<Integer> way = new ArrayList<>();
            for (int w = v; w != -1; w = up[w]) {
                way.add(w);
            }
            return way;
        }

        boolean inTree(int e) {
            int[] up = tree();
            int[] two = ends.get(e);
            return up[two[0]] == two[1] || up[two[1]] == two[0];
        }

        // the vertices of the cycle in turn
        List<Integer> cycleOf(int e) {
            List<Integer> one = wayUp(ends.get(e)[0]);
            List<Integer> two = wayUp(ends.get(e)[1]);
            int last = -1;
            while (!one.isEmpty() && !two.isEmpty()
                    && one.get(one.size() - 1).equals(two.get(two.size() - 1))) {
                last = one.remove(one.size() - 1);
                two.remove(two.size() - 1);
            }
            one.add(last);
            Collections.reverse(two);
            one.addAll(two);
            return one;
        }

        int cycle(int e) {
            return noEdge(e) ? BOUNDS : inTree(e) ? 0 : cycleOf(e).size();
        }

        int side(int e, boolean inside) {
            if (noEdge(e)) {
                return BOUNDS;
            }
            return !plane() ? STATE : inTree(e) ? 0 : insideAndOutside(e)[inside ? 0 : 1];
        }

        // faces grow together over edges off the cycle till nothing changes any more
        int[] insideAndOutside(int e) {
            List<Integer> ring = cycleOf(e);
            List<List<int[]>> all = faces();
            int[] group = new int[all.size()];
            for (int f = 0; f < group.length; f++) {
                group[f] = f;
            }
            for (int f = 0; f < group.length; f++) {
                for (int[] s : all.get(f)) {
                    if (!isRingEdge(ring, s[0])) {
                        int g = faceWith(all, s[0], other(s[0], s[1]));
                        int old = group[f];
                        for (int h = 0; h < group.length; h++) {
                            group[h] = group[h] == old ? group[g] : group[h];
                        }
                    }
                }
            }
            int in = group[faceWith(all, e, ends.get(e)[0])];
            int[] counts = new int[2];
            for (int v : partOf(ends.get(e)[0])) {
                if (!ring.contains(v)) {
                    boolean isIn = false;
                    for (int edge : rounds.get(v)) {
                        isIn |= group[faceWith(all, edge, v)] == in;
                    }
                    counts[isIn ? 0 : 1]++;
                }
            }
            return counts;
        }

        private boolean isRingEdge(List<Integer> ring, int e) {
            int i = ring.indexOf(ends.get(e)[0]);
            int j = ring.indexOf(ends.get(e)[1]);
            if (i < 0 || j < 0) {
                return false;
            }
            int gap = Math.floorMod(i - j, ring.size());
            return gap == 1 || gap == ring.size() - 1;
        }

        private int faceWith(List<List<int[]>> all, int e, int from) {
            for (int f = 0; f < all.size(); f++) {
                for (int[] s : all.get(f)) {
                    if (s[0] == e && s[1] == from) {
                        return f;
                    }
                }
            }
            throw new AssertionError("a side without a face");
        }

        int best() {
            if (!plane()) {
                return STATE;
            }
            int best = -1;
            int bestKey = Integer.MAX_VALUE;
            for (int e = 0; e < ends.size(); e++) {
                if (ends.get(e) != null && !inTree(e)) {
                    int[] n = insideAndOutside(e);
                    int key = Math.max(n[0], n[1]) * 1000 + cycleOf(e).size();
                    if (key < bestKey) {
                        best = e;
                        bestKey = key;
                    }
                }
            }
            return best;
        }

        int told(int what) {
            int[] all = {rounds.size(), edges(), plane() ? 1 : 0, usedColours()};
            return what < 0 || what > 3 ? -1 : all[what];
        }

        void clear() {
            rounds.clear();
            ends.clear();
            uncolour();
        }
    }

    // ---- a run on both ----

    private static final class Run {
        final String name;
        final Random random;
        final PlaneColours real = new PlaneColours();
        final Model model = new Model();
        int calls = 0;

        Run(String name, long seed) {
            this.name = name;
            this.random = new Random(seed);
        }

        boolean mayCall() {
            return calls < MOST_CALLS;
        }

        int compare(String call, IntSupplier got, int want) {
            if (!mayCall()) {
                return want;
            }
            calls++;
            int answer;
            try {
                answer = got.getAsInt();
            } catch (IndexOutOfBoundsException e) {
                answer = BOUNDS;
            } catch (IllegalArgumentException e) {
                answer = ARGUMENT;
            } catch (IllegalStateException e) {
                answer = STATE;
            } catch (UnsupportedOperationException e) {
                answer = UNSUPPORTED;
            }
            if (answer != want) {
                wrong++;
                if (wrong <= 20) {
                    System.out.println(name + ", call " + calls + ": " + call + " answered " + answer + ", due is " + want);
                }
            }
            return want;
        }

        void vertex() {
            if (mayCall()) {
                compare("vertex()", real::vertex, model.vertex());
            }
        }

        void edge(int u, int v, int bu, int bv) {
            if (mayCall()) {
                compare("edge(" + u + ", " + v + ", " + bu + ", " + bv + ")",
                        () -> real.edge(u, v, bu, bv), model.edge(u, v, bu, bv));
            }
        }

        void remove(int e) {
            if (mayCall()) {
                compare("remove(" + e + ")", () -> real.remove(e), model.remove(e));
            }
        }

        void colour() {
            if (mayCall()) {
                compare("colour()", real::colour, model.colour());
            }
        }

        void exchange(int v, int c) {
            if (mayCall()) {
                compare("exchange(" + v + ", " + c + ")", () -> real.exchange(v, c), model.exchange(v, c));
            }
        }

        void clear() {
            if (mayCall()) {
                calls++;
                real.clear();
                model.clear();
            }
        }

        void whole() {
            compare("faces()", real::faces, model.faces().size());
            compare("parts()", real::parts, model.parts());
            compare("genus()", real::genus, model.genus());
            compare("exchanges()", real::exchanges, model.changed);
            compare("clashes()", real::clashes, model.clashes());
            compare("best()", real::best, model.best());
            for (int what = -1; what <= 4; what++) {
                int w = what;
                compare("told(" + w + ")", () -> real.told(w), model.told(w));
            }
        }

        void askVertex(int v) {
            boolean none = model.noVertex(v);
            compare("degree(" + v + ")", () -> real.degree(v), none ? BOUNDS : model.rounds.get(v).size());
            compare("colourOf(" + v + ")", () -> real.colourOf(v), none ? BOUNDS : model.colours[v]);
            compare("above(" + v + ")", () -> real.above(v), none ? BOUNDS : model.tree()[v]);
        }

        void askRound(int v, int place) {
            compare("round(" + v + ", " + place + ")", () -> real.round(v, place), model.round(v, place));
        }

        void askEdge(int e) {
            boolean none = model.noEdge(e);
            compare("end(" + e + ", false)", () -> real.end(e, false), none ? BOUNDS : model.ends.get(e)[0]);
            compare("end(" + e + ", true)", () -> real.end(e, true), none ? BOUNDS : model.ends.get(e)[1]);
            compare("cycle(" + e + ")", () -> real.cycle(e), model.cycle(e));
            compare("side(" + e + ", true)", () -> real.side(e, true), model.side(e, true));
            compare("side(" + e + ", false)", () -> real.side(e, false), model.side(e, false));
        }

        void askFace(int f, int k) {
            compare("sides(" + f + ")", () -> real.sides(f), model.sides(f));
            compare("from(" + f + ", " + k + ")", () -> real.from(f, k), model.from(f, k));
        }

        int anyVertex() {
            return random.nextInt(model.rounds.size() + 2) - 1;
        }

        int anyEdge() {
            return random.nextInt(model.ends.size() + 3) - 2;
        }

        int edgeRound(int v) {
            if (model.noVertex(v) || model.rounds.get(v).isEmpty() || random.nextInt(3) == 0) {
                return -1;
            }
            List<Integer> round = model.rounds.get(v);
            return round.get(random.nextInt(round.size()));
        }

        /** A chord through a face, or a way out of one to a vertex without edges, keeps it plane. */
        void planeEdge() {
            List<List<int[]>> all = model.faces();
            List<Integer> bare = new ArrayList<>();
            for (int v = 0; v < model.rounds.size(); v++) {
                if (model.rounds.get(v).isEmpty()) {
                    bare.add(v);
                }
            }
            if (all.isEmpty()) {
                if (bare.size() >= 2) {
                    edge(bare.get(1), bare.get(0), -1, -1);
                }
                return;
            }
            List<int[]> face = all.get(random.nextInt(all.size()));
            int i = random.nextInt(face.size());
            int behindU = face.get((i + face.size() - 1) % face.size())[0];
            int u = face.get(i)[1];
            if (!bare.isEmpty() && random.nextInt(3) == 0) {
                edge(u, bare.get(random.nextInt(bare.size())), behindU, -1);
                return;
            }
            int j = random.nextInt(face.size());
            int v = face.get(j)[1];
            if (u != v && !model.neighbours(u).contains(v)) {
                edge(u, v, behindU, face.get((j + face.size() - 1) % face.size())[0]);
            }
        }
    }

    /** Any call with any argument near what there is. */
    private static Run mixedRun(long seed, int vertices) {
        Run run = new Run("mixed run " + seed, seed);
        for (int i = 0; i < vertices; i++) {
            run.vertex();
        }
        boolean plane = run.random.nextBoolean();
        for (int i = 0; run.mayCall() && i < 2000; i++) {
            int u = run.anyVertex();
            int v = run.anyVertex();
            switch (run.random.nextInt(16)) {
                case 0 -> run.edge(u, v, run.edgeRound(u), run.edgeRound(v));
                case 1 -> run.edge(u, v, run.anyEdge(), run.anyEdge());
                case 2 -> run.remove(run.anyEdge());
                case 3 -> run.colour();
                case 4 -> run.exchange(u, run.random.nextInt(8) - 1);
                case 5 -> run.askVertex(u);
                case 6 -> run.askRound(u, run.random.nextInt(6) - 1);
                case 7 -> run.askEdge(run.anyEdge());
                case 8 -> run.askFace(run.random.nextInt(8) - 1, run.random.nextInt(9) - 1);
                case 9 -> {
                    if (run.random.nextInt(6) == 0) {
                        run.whole();
                    }
                }
                case 10 -> {
                    if (run.random.nextInt(10) == 0) {
                        run.vertex();
                    }
                    if (run.random.nextInt(60) == 0) {
                        run.clear();
                    }
                }
                default -> {
                    if (plane) {
                        run.planeEdge();
                    } else {
                        run.edge(u, v, run.edgeRound(u), run.edgeRound(v));
                    }
                }
            }
        }
        return run;
    }

    /** A plane graph with many edges, built at once, so that colours run out and chains change. */
    private static Run densePlaneRun(long seed, int vertices) {
        Run run = new Run("dense run " + seed, seed);
        for (int i = 0; i < vertices; i++) {
            run.vertex();
        }
        for (int i = 0; i < 3000 && run.model.edges() < 3 * vertices - 6; i++) {
            run.planeEdge();
        }
        run.colour();
        run.whole();
        for (int v = 0; v < vertices; v++) {
            run.askVertex(v);
        }
        for (int i = 0; i < 12; i++) {
            run.askEdge(run.random.nextInt(run.model.ends.size()));
            run.askFace(run.random.nextInt(run.model.faces().size()), run.random.nextInt(4));
            run.exchange(run.random.nextInt(vertices), 1 + run.random.nextInt(5));
        }
        run.whole();
        for (int i = 0; i < 5; i++) {
            run.remove(run.anyEdge());
        }
        run.colour();
        run.whole();
        return run;
    }

    public static void main(String[] args) {
        int firstPairs = 0;
        int secondPairs = 0;
        for (int seed = 0; seed < 300; seed++) {
            mixedRun(seed, 2 + seed % 12);
        }
        for (int seed = 0; seed < 400; seed++) {
            Run run = densePlaneRun(seed, 12 + seed % 19);
            firstPairs += run.model.firstPairChanges;
            secondPairs += run.model.secondPairChanges;
        }
        System.out.println("chains of n0 changed: " + firstPairs + ", of n1: " + secondPairs);
        if (firstPairs == 0 || secondPairs == 0) {
            wrong++;
            System.out.println("the runs do not reach both kinds of chains");
        }
        System.out.println(wrong == 0 ? "all answers are as in the model" : wrong + " answers are not as in the model");
        if (wrong != 0) {
            System.exit(1);
        }
    }
}
