import java.util.ArrayList;
import java.util.List;

/**
 * A drawing in the plane without crossings: vertices are points of which no three are on a line, edges are
 * straight. Edges with the same two ends are thought to be bent a little, side by side.
 */
final class Drawn {
    private static final int WIDTH = 1000;

    final int n;
    private final long[] x;
    private final long[] y;
    private final List<Integer> ends = new ArrayList<>();

    Drawn(Numbers numbers, int n, int wanted) {
        this.n = n;
        x = new long[n];
        y = new long[n];
        for (int v = 0; v < n; v++) {
            do {
                x[v] = numbers.below(WIDTH);
                y[v] = numbers.below(WIDTH);
            } while (isOnALineWithTwo(v));
        }
        for (int tries = 0; tries < 100 && n > 1 && ends.size() < 2 * wanted; tries++) {
            int u = numbers.below(n);
            int v = numbers.below(n);
            boolean again = hasEdgeBetween(u, v);
            if (u != v && (again ? numbers.below(4) == 0 : meetsNoEdge(u, v))) {
                ends.add(u);
                ends.add(v);
            }
        }
    }

    int edges() {
        return ends.size() / 2;
    }

    /** The ends of all edges, two by two. */
    int[] ends() {
        int[] row = new int[ends.size()];
        for (int i = 0; i < row.length; i++) {
            row[i] = ends.get(i);
        }
        return row;
    }

    // ---- the plane

    /** Above 0 when c is to the left of the line from a to b, below 0 when it is to the right. */
    private long turn(int a, int b, int c) {
        return (x[b] - x[a]) * (y[c] - y[a]) - (y[b] - y[a]) * (x[c] - x[a]);
    }

    private boolean isOnALineWithTwo(int v) {
        for (int a = 0; a < v; a++) {
            if (x[a] == x[v] && y[a] == y[v]) {
                return true;
            }
            for (int b = 0; b < a; b++) {
                if (turn(a, b, v) == 0) {
                    return true;
                }
            }
        }
        return false;
    }

    private boolean hasEdgeBetween(int u, int v) {
        for (int i = 0; i < ends.size(); i += 2) {
            int a = ends.get(i);
            int b = ends.get(i + 1);
            if (a == u && b == v || a == v && b == u) {
                return true;
            }
        }
        return false;
    }

    private boolean meetsNoEdge(int u, int v) {
        for (int i = 0; i < ends.size(); i += 2) {
            int a = ends.get(i);
            int b = ends.get(i + 1);
            boolean apart = a != u && a != v && b != u && b != v;
            if (apart && turn(a, b, u) > 0 != turn(a, b, v) > 0 && turn(u, v, a) > 0 != turn(u, v, b) > 0) {
                return false;
            }
        }
        return true;
    }

    // ---- the rounds

    /** For each vertex its edges in a round, each as the step that leaves by it. */
    List<List<Integer>> rounds() {
        List<List<Integer>> rounds = Rounds.leavingSteps(n, ends());
        for (int v = 0; v < n; v++) {
            int at = v;
            rounds.get(v).sort((s, t) -> compareAt(at, s, t));
        }
        return rounds;
    }

    private int compareAt(int v, int s, int t) {
        int to = ends.get(s ^ 1);
        int other = ends.get(t ^ 1);
        if (to == other) {
            // Side by side: seen from the other end their order is the other way round.
            return v < to ? s / 2 - t / 2 : t / 2 - s / 2;
        }
        return Double.compare(angle(v, to), angle(v, other));
    }

    private double angle(int from, int to) {
        return Math.atan2(y[to] - y[from], x[to] - x[from]);
    }
}
