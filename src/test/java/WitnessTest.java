import java.util.ArrayList;
import java.util.List;

/**
 * Kuratowski's bracket and THE WITNESS, taken as they stand: graphs that have a part that is five, or three and
 * three, but for vertices with two edges on the way, are not planar, and their witness is found by asking other
 * objects whether parts are planar, edge by edge from 0 on.
 */
public final class WitnessTest {
    private static final int GRAPHS = 3000;

    private static final Check CHECK = new Check();
    private static final Numbers NUMBERS = new Numbers(16);

    public static void main(String[] args) {
        for (int times = 0; times < GRAPHS; times++) {
            CHECK.at("graph " + times);
            boolean isFive = NUMBERS.below(2) == 0;
            tangle(isFive, NUMBERS.below(3));
        }
        CHECK.end();
    }

    private static void tangle(boolean isFive, int style) {
        int n = isFive ? 5 : 6;
        int[] label = NUMBERS.shuffled(10);
        List<int[]> edges = new ArrayList<>();
        int[] ends = isFive ? Graphs.FIVE : Graphs.THREE_AND_THREE;
        for (int i = 0; i < ends.length; i += 2) {
            edges.add(new int[] {label[ends[i]], label[ends[i + 1]]});
        }
        for (int v = n; v < 10 && NUMBERS.below(4) != 0; v++) {
            putOnTheWay(edges, label[v]);
        }
        int least = edges.size();
        while (style > 0 && edges.size() < 18 && NUMBERS.below(8) != 0) {
            int u = NUMBERS.below(10);
            edges.add(new int[] {u, (u + 1 + NUMBERS.below(9)) % 10});
        }
        int[] row = inOrder(edges, style == 2);
        PlanarSplit x = Graphs.of(10, NUMBERS.below(3), row);
        CHECK.due("edges()", x.edges(), edges.size());
        CHECK.due("planar()", x.planar(), false);
        CHECK.due("cut()", x.cut(), PlanarSplit.NONE);
        String witness = Answers.witness(x);
        CHECK.due("witness", witness, witnessByWords(row));
        CHECK.due("kind()", x.kind(), kindOf(row, witness));
        if (edges.size() == least) {
            CHECK.due("the witness of a smallest one", witness, "1".repeat(least));
            CHECK.due("kind() of a smallest one", x.kind(), isFive ? 5 : 3);
        }
    }

    private static void putOnTheWay(List<int[]> edges, int v) {
        int[] edge = edges.remove(NUMBERS.below(edges.size()));
        edges.add(new int[] {edge[0], v});
        edges.add(new int[] {v, edge[1]});
    }

    /** The ends of the edges; in an order drawn by chance when they are mixed, else what was added last is first. */
    private static int[] inOrder(List<int[]> edges, boolean mixed) {
        int[] order = NUMBERS.shuffled(edges.size());
        int[] row = {};
        for (int i = 0; i < order.length; i++) {
            int[] edge = edges.get(mixed ? order[i] : order.length - 1 - i);
            row = Graphs.joined(row, edge[NUMBERS.below(2)]);
            row = Graphs.joined(row, edge[0] + edge[1] - row[row.length - 1]);
        }
        return row;
    }

    // ---- "a part that has all edges at first; then, for each edge from 0 on, in order: .."

    private static String witnessByWords(int[] row) {
        StringBuilder part = new StringBuilder("1".repeat(row.length / 2));
        for (int e = 0; e < part.length(); e++) {
            part.setCharAt(e, '0');
            if (partOf(row, part.toString()).planar()) {
                part.setCharAt(e, '1');
            }
        }
        return part.toString();
    }

    private static PlanarSplit partOf(int[] row, String part) {
        return Graphs.of(10, 1, chosen(row, part));
    }

    private static int[] chosen(int[] row, String part) {
        int[] ends = {};
        for (int e = 0; e < part.length(); e++) {
            if (part.charAt(e) == '1') {
                ends = Graphs.joined(ends, row[2 * e], row[2 * e + 1]);
            }
        }
        return ends;
    }

    // ---- "(So it is a smallest one: it has 5 vertices with four edges each, or 6 with three, ..)"

    /** 5 or 3 when the part is that but for vertices with two edges on the way, -1 when it is neither. */
    private static int kindOf(int[] row, String part) {
        int[] ends = chosen(row, part);
        for (int v = 0; v < 10; v++) {
            if (count(ends, v) == 2) {
                ends = withoutThinVertex(ends, v);
            }
        }
        if (ends.length == 20 && eachTwoAreJoined(ends)) {
            return 5;
        }
        return ends.length == 18 && isThreeAndThree(ends) ? 3 : -1;
    }

    private static int count(int[] ends, int v) {
        int sum = 0;
        for (int end : ends) {
            sum += end == v ? 1 : 0;
        }
        return sum;
    }

    private static int[] withoutThinVertex(int[] ends, int v) {
        int[] rest = {};
        int[] around = {};
        for (int i = 0; i < ends.length; i += 2) {
            if (ends[i] == v || ends[i + 1] == v) {
                around = Graphs.joined(around, ends[i] + ends[i + 1] - v);
            } else {
                rest = Graphs.joined(rest, ends[i], ends[i + 1]);
            }
        }
        return Graphs.joined(rest, around);
    }

    private static boolean joins(int[] ends, int u, int v) {
        for (int i = 0; i < ends.length; i += 2) {
            if (ends[i] == u && ends[i + 1] == v || ends[i] == v && ends[i + 1] == u) {
                return true;
            }
        }
        return false;
    }

    private static boolean eachTwoAreJoined(int[] ends) {
        int pairs = 0;
        for (int v = 0; v < 10; v++) {
            for (int u = 0; u < v; u++) {
                pairs += joins(ends, u, v) ? 1 : 0;
            }
        }
        int vertices = 0;
        for (int v = 0; v < 10; v++) {
            vertices += count(ends, v) == 4 ? 1 : 0;
        }
        return pairs == 10 && vertices == 5;
    }

    /** Those that are joined with the first end are the one three, all others that are left are the other. */
    private static boolean isThreeAndThree(int[] ends) {
        int others = 0;
        int firsts = 0;
        for (int v = 0; v < 10; v++) {
            if (joins(ends, ends[0], v)) {
                others |= 1 << v;
            } else if (count(ends, v) > 0) {
                firsts |= 1 << v;
            }
        }
        int pairs = 0;
        for (int u = 0; u < 10; u++) {
            for (int v = 0; v < 10; v++) {
                boolean isDue = (firsts >> u & 1) != 0 && (others >> v & 1) != 0;
                pairs += isDue && joins(ends, u, v) ? 1 : 0;
            }
        }
        return Integer.bitCount(firsts) == 3 && Integer.bitCount(others) == 3 && pairs == 9;
    }
}
