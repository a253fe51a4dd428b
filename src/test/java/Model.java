import java.util.ArrayList;
import java.util.Arrays;
import java.util.HashMap;
import java.util.List;
import java.util.Map;

/**
 * The document's words taken as they stand, with no thought of speed, and by other ways than the
 * program goes: circles are listed one by one, a graph is planar when no contraction of it holds
 * five or three and three, and small graphs are tried with every round of edges at every vertex.
 */
final class Model {
    private static final Map<List<Long>, Boolean> TANGLED = new HashMap<>();
    private static final long MOST_ROUNDS = 3000;

    int vertexCount;
    final List<int[]> edges = new ArrayList<>();

    boolean begin(int n) {
        if (n < 0 || n > 10) {
            return false;
        }
        vertexCount = n;
        edges.clear();
        return true;
    }

    int add(int u, int v, int weight) {
        if (!hasVertex(u) || !hasVertex(v) || u == v || weight < 0 || edges.size() == 18) {
            return -1;
        }
        edges.add(new int[] {u, v, weight});
        return edges.size() - 1;
    }

    int undo() {
        if (edges.isEmpty()) {
            return -1;
        }
        edges.remove(edges.size() - 1);
        return edges.size();
    }

    boolean weigh(int e, int weight) {
        if (!hasEdge(e) || weight < 0) {
            return false;
        }
        edges.get(e)[2] = weight;
        return true;
    }

    boolean hasVertex(int v) {
        return 0 <= v && v < vertexCount;
    }

    boolean hasEdge(int e) {
        return 0 <= e && e < edges.size();
    }

    // ---- components: whoever can be come to

    int[] componentNumbers() {
        int[] number = new int[vertexCount];
        Arrays.fill(number, -1);
        int next = 0;
        for (int v = 0; v < vertexCount; v++) {
            if (number[v] < 0) {
                flood(v, next++, number);
            }
        }
        return number;
    }

    private void flood(int v, int label, int[] number) {
        number[v] = label;
        for (int[] edge : edges) {
            if (edge[0] == v && number[edge[1]] < 0) {
                flood(edge[1], label, number);
            }
            if (edge[1] == v && number[edge[0]] < 0) {
                flood(edge[0], label, number);
            }
        }
    }

    // ---- blocks: every circle is listed

    int[] blockNumbers() {
        boolean[][] together = new boolean[edges.size()][edges.size()];
        for (int v = 0; v < vertexCount; v++) {
            listCircles(v, v, 1 << v, new ArrayList<>(), together);
        }
        int[] number = new int[edges.size()];
        int next = 0;
        for (int e = 0; e < edges.size(); e++) {
            number[e] = -1;
            for (int f = 0; f < e && number[e] < 0; f++) {
                if (together[f][e]) {
                    number[e] = number[f];
                }
            }
            if (number[e] < 0) {
                number[e] = next++;
            }
        }
        return number;
    }

    private void listCircles(int start, int v, int come, List<Integer> row, boolean[][] together) {
        for (int e = 0; e < edges.size(); e++) {
            int[] edge = edges.get(e);
            if (edge[0] != v && edge[1] != v || row.contains(e)) {
                continue;
            }
            int w = edge[0] + edge[1] - v;
            row.add(e);
            if (w == start) {
                for (int f : row) {
                    for (int g : row) {
                        together[f][g] = true;
                    }
                }
            } else if (w > start && (come >> w & 1) == 0) {
                listCircles(start, w, come | 1 << w, row, together);
            }
            row.remove(row.size() - 1);
        }
    }

    // ---- planar: by contractions, and by rounds where there are few

    boolean planar() {
        return planar(edges);
    }

    private boolean planar(List<int[]> part) {
        boolean byMinors = !tangled(neighboursIn(part));
        if (countRounds(part) <= MOST_ROUNDS && planarByRounds(part) != byMinors) {
            throw new IllegalStateException("the two ways of the model differ");
        }
        return byMinors;
    }

    private int[] neighboursIn(List<int[]> part) {
        int[] near = new int[vertexCount];
        for (int[] edge : part) {
            near[edge[0]] |= 1 << edge[1];
            near[edge[1]] |= 1 << edge[0];
        }
        return near;
    }

    private static boolean tangled(int[] given) {
        int[] near = withoutThinVertices(given);
        if (near.length < 5) {
            return false;
        }
        List<Long> key = new ArrayList<>();
        for (int set : near) {
            key.add((long) set);
        }
        Boolean known = TANGLED.get(key);
        if (known == null) {
            known = holdsFive(near, 0, 0) || holdsThreeAndThree(near) || tangledByContraction(near);
            TANGLED.put(key, known);
        }
        return known;
    }

    /** Vertices with fewer than three neighbours are no help: they are left out or smoothed away. */
    private static int[] withoutThinVertices(int[] given) {
        int[] near = given.clone();
        for (int v = 0; v < near.length; v++) {
            if (Integer.bitCount(near[v]) < 3) {
                int around = near[v];
                for (int w = 0; w < near.length; w++) {
                    if ((around >> w & 1) != 0) {
                        near[w] = (near[w] | around) & ~(1 << w) & ~(1 << v);
                    }
                }
                return withoutThinVertices(leaveOut(near, v));
            }
        }
        return near;
    }

    private static int[] leaveOut(int[] near, int v) {
        int[] rest = new int[near.length - 1];
        for (int w = 0; w < rest.length; w++) {
            int set = near[w < v ? w : w + 1];
            rest[w] = set & (1 << v) - 1 | set >> v + 1 << v;
        }
        return rest;
    }

    private static boolean holdsFive(int[] near, int chosen, int from) {
        if (Integer.bitCount(chosen) == 5) {
            return true;
        }
        for (int v = from; v < near.length; v++) {
            if ((chosen & ~near[v]) == 0 && holdsFive(near, chosen | 1 << v, v + 1)) {
                return true;
            }
        }
        return false;
    }

    private static boolean holdsThreeAndThree(int[] near) {
        for (int a = 0; a < near.length; a++) {
            for (int b = 0; b < a; b++) {
                for (int c = 0; c < b; c++) {
                    int common = near[a] & near[b] & near[c] & ~(1 << a | 1 << b | 1 << c);
                    if (Integer.bitCount(common) >= 3) {
                        return true;
                    }
                }
            }
        }
        return false;
    }

    private static boolean tangledByContraction(int[] near) {
        for (int v = 0; v < near.length; v++) {
            for (int w = 0; w < v; w++) {
                if ((near[v] >> w & 1) != 0) {
                    int[] merged = near.clone();
                    merged[w] = (near[v] | near[w]) & ~(1 << v | 1 << w);
                    for (int x = 0; x < near.length; x++) {
                        if (x != w && (near[x] >> v & 1) != 0) {
                            merged[x] = merged[x] & ~(1 << v) | 1 << w;
                        }
                    }
                    if (tangled(leaveOut(merged, v))) {
                        return true;
                    }
                }
            }
        }
        return false;
    }

    private long countRounds(List<int[]> part) {
        long product = 1;
        for (List<Integer> steps : Rounds.leavingSteps(vertexCount, endsOf(part))) {
            for (int i = 2; i < steps.size() && product <= MOST_ROUNDS; i++) {
                product *= i;
            }
        }
        return product;
    }

    /** No rounds give more faces than V - E + F = 2 in every component asks. */
    private boolean planarByRounds(List<int[]> part) {
        Model alone = new Model();
        alone.vertexCount = vertexCount;
        alone.edges.addAll(part);
        int components = (int) Arrays.stream(alone.componentNumbers()).distinct().count();
        return Rounds.mostWalks(vertexCount, endsOf(part)) == 2 * components - vertexCount + part.size();
    }

    private static int[] endsOf(List<int[]> part) {
        int[] ends = new int[2 * part.size()];
        for (int e = 0; e < part.size(); e++) {
            ends[2 * e] = part.get(e)[0];
            ends[2 * e + 1] = part.get(e)[1];
        }
        return ends;
    }

    int faces() {
        int[] number = componentNumbers();
        int sum = 0;
        for (int c = 0; c < vertexCount; c++) {
            List<int[]> within = new ArrayList<>();
            int vertices = 0;
            for (int v = 0; v < vertexCount; v++) {
                vertices += number[v] == c ? 1 : 0;
            }
            for (int[] edge : edges) {
                if (number[edge[0]] == c) {
                    within.add(edge);
                }
            }
            if (vertices > 0 && planar(within)) {
                sum += 2 - vertices + within.size();
            }
        }
        return sum;
    }

    // ---- the split: every choice of sides is weighed, and ties are settled edge by edge

    int[] sides() {
        int[] number = componentNumbers();
        int[] best = null;
        for (int choice = 0; choice < 1 << vertexCount; choice++) {
            int[] side = new int[vertexCount];
            boolean[] met = new boolean[vertexCount];
            boolean allowed = true;
            for (int v = 0; v < vertexCount; v++) {
                side[v] = choice >> v & 1;
                allowed &= met[number[v]] || side[v] == 0;
                met[number[v]] = true;
            }
            if (allowed && (best == null || isBetter(side, best))) {
                best = side;
            }
        }
        return best;
    }

    private boolean isBetter(int[] side, int[] other) {
        long difference = weightOf(side) - weightOf(other);
        if (difference != 0) {
            return difference > 0;
        }
        for (int[] edge : edges) {
            boolean here = side[edge[0]] != side[edge[1]];
            boolean there = other[edge[0]] != other[edge[1]];
            if (here != there) {
                return here;
            }
        }
        return false;
    }

    long weightOf(int[] side) {
        long sum = 0;
        for (int[] edge : edges) {
            sum += side[edge[0]] != side[edge[1]] ? edge[2] : 0;
        }
        return sum;
    }

    // ---- the witness

    boolean[] witness() {
        boolean[] kept = new boolean[edges.size()];
        Arrays.fill(kept, true);
        for (int e = 0; e < kept.length; e++) {
            kept[e] = false;
            kept[e] = planar(chosen(kept));
        }
        return kept;
    }

    private List<int[]> chosen(boolean[] kept) {
        List<int[]> part = new ArrayList<>();
        for (int e = 0; e < kept.length; e++) {
            if (kept[e]) {
                part.add(edges.get(e));
            }
        }
        return part;
    }

    int kind() {
        if (planar()) {
            return 0;
        }
        int[] degree = new int[vertexCount];
        for (int[] edge : chosen(witness())) {
            degree[edge[0]]++;
            degree[edge[1]]++;
        }
        for (int d : degree) {
            if (d == 4) {
                return 5;
            }
        }
        return 3;
    }
}
