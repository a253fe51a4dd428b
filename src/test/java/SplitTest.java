/**
 * THE SPLIT, its sentences taken as they stand: whatever other way there is to choose sides, it weighs less, or as
 * much and e, the first edge that crosses in one of them and not in the other, crosses in the split.
 */
public final class SplitTest {
    private static final int GRAPHS = 1500;

    private static final Check CHECK = new Check();
    private static final Numbers NUMBERS = new Numbers(14);

    public static void main(String[] args) {
        for (int times = 0; times < GRAPHS; times++) {
            CHECK.at("graph " + times);
            splitOf(new Drawn(NUMBERS, 1 + NUMBERS.below(10), NUMBERS.below(19)), NUMBERS.below(5));
        }
        CHECK.end();
    }

    private static void splitOf(Drawn drawn, int style) {
        int[] ends = drawn.ends();
        int[] weights = new int[drawn.edges()];
        PlanarSplit x = Graphs.of(drawn.n, 0, ends);
        for (int e = 0; e < weights.length; e++) {
            weights[e] = drawWeight(style);
            CHECK.due("weigh", x.weigh(e, weights[e]), true);
        }
        int split = 0;
        for (int v = 0; v < drawn.n; v++) {
            int side = x.side(v);
            CHECK.due("side(" + v + ") is 0 or 1", side == 0 || side == 1, true);
            split |= side << v;
        }
        int leastOnes = leastOfComponents(drawn.n, ends);
        CHECK.due("least vertices on side 1", split & leastOnes, 0);
        for (int e = 0; e < weights.length; e++) {
            CHECK.due("crosses(" + e + ")", x.crosses(e), crosses(ends, e, split));
        }
        CHECK.due("cut()", x.cut(), weight(ends, weights, split));
        for (int way = 0; way < 1 << drawn.n; way++) {
            if (way != split && (way & leastOnes) == 0) {
                CHECK.due("sides " + split + " before " + way, isBefore(ends, weights, split, way), true);
            }
        }
    }

    private static int drawWeight(int style) {
        return switch (style) {
            case 0 -> 0;
            case 1 -> NUMBERS.below(2);
            case 2 -> NUMBERS.below(4);
            case 3 -> Integer.MAX_VALUE - NUMBERS.below(2);
            default -> NUMBERS.below(Integer.MAX_VALUE);
        };
    }

    /** A vertex is the least of its component when no row of steps leads from it to a lesser one. */
    private static int leastOfComponents(int n, int[] ends) {
        int found = 0;
        for (int v = 0; v < n; v++) {
            int come = 1 << v;
            for (int times = 0; times < n; times++) {
                for (int i = 0; i < ends.length; i += 2) {
                    int both = 1 << ends[i] | 1 << ends[i + 1];
                    come |= (come & both) != 0 ? both : 0;
                }
            }
            found |= (come & (1 << v) - 1) == 0 ? 1 << v : 0;
        }
        return found;
    }

    private static boolean crosses(int[] ends, int e, int way) {
        return (way >> ends[2 * e] & 1) != (way >> ends[2 * e + 1] & 1);
    }

    private static long weight(int[] ends, int[] weights, int way) {
        long sum = 0;
        for (int e = 0; e < weights.length; e++) {
            sum += crosses(ends, e, way) ? weights[e] : 0;
        }
        return sum;
    }

    private static boolean isBefore(int[] ends, int[] weights, int split, int way) {
        long more = weight(ends, weights, split) - weight(ends, weights, way);
        for (int e = 0; e < weights.length && more == 0; e++) {
            if (crosses(ends, e, split) != crosses(ends, e, way)) {
                return crosses(ends, e, split);
            }
        }
        return more > 0;
    }
}
