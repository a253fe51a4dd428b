import java.util.function.ToLongFunction;

/** The sentences of "What it is" and of "Terms" that name a boundary case, each with a test of its own. */
public final class TermsTest {
    private static final int NONE = PlanarSplit.NONE;
    private static final int LEAST = Integer.MIN_VALUE;
    private static final int HEAVIEST = Integer.MAX_VALUE;

    private static final Check CHECK = new Check();

    public static void main(String[] args) {
        last512thCallOfChanges();
        last512thCallOfQuestions();
        zeroToTenVertices();
        atMostEighteenEdges();
        edgesNumberedInOrder();
        twoDifferentEnds();
        leastAndGreatestWeight();
        severalEdgesWithTheSameEnds();
        oneStepAndNineSteps();
        leastAndGreatestCircle();
        noEdgeTwiceInACircle();
        noVertexTwiceInACircle();
        componentsByLeastVertices();
        blocksByLeastEdges();
        leastThatIsNotPlanar();
        verticesWithTwoEdgesOnTheWay();
        mostEdgesThatArePlanar();
        fullGraphsPlanarOrNot();
        vertexWithoutEdges();
        leastVertexHasSideZero();
        leastVertexOfEachOfManyComponents();
        greatestSumBeforeFirstEdge();
        firstEdgeSettlesTies();
        lastEdgeSettlesTies();
        tiesOfGreatestWeights();
        witnessLeavesFirstEdgesOut();
        witnessOfAFullGraph();
        witnessIsSmallest();
        answersOfTheGraphAtTheTime();
        witnessOfTheGraphAtTheTime();
        splitOfTheGraphAtTheTime();
        CHECK.end();
    }

    // ---- "An object is used for at most 512 calls after it has been made"

    private static void last512thCallOfChanges() {
        CHECK.at("512 calls, 511 of them changes");
        String[] names = {"begin(3)", "begin(11)", "add(0, 1, 1)", "undo()", "weigh(9, 4)", "edges()", "components()",
            "component(4)", "blocks()", "block(9)", "planar()", "faces()", "cut()", "side(0)", "crosses(0)",
            "witness(9)", "kind()"};
        long[] dues = {1, 0, 10, 9, 1, 10, 1, 0, 1, 0, 0, 0, NONE, NONE, 0, 1, 5};
        for (int i = 0; i < names.length; i++) {
            PlanarSplit x = Graphs.five();
            for (int calls = 11; calls < 511; calls += 2) {
                x.undo();
                x.add(3, 4, 1);
            }
            CHECK.due(names[i], call(x, i), dues[i]);
        }
    }

    private static long call(PlanarSplit x, int which) {
        return switch (which) {
            case 0 -> x.begin(3) ? 1 : 0;
            case 1 -> x.begin(11) ? 1 : 0;
            case 2 -> x.add(0, 1, 1);
            case 3 -> x.undo();
            case 4 -> x.weigh(9, 4) ? 1 : 0;
            case 5 -> x.edges();
            case 6 -> x.components();
            case 7 -> x.component(4);
            case 8 -> x.blocks();
            case 9 -> x.block(9);
            case 10 -> x.planar() ? 1 : 0;
            case 11 -> x.faces();
            case 12 -> x.cut();
            case 13 -> x.side(0);
            case 14 -> x.crosses(0) ? 1 : 0;
            case 15 -> x.witness(9) ? 1 : 0;
            default -> x.kind();
        };
    }

    private static void last512thCallOfQuestions() {
        CHECK.at("512 calls, most of them questions");
        PlanarSplit x = Graphs.of(10, HEAVIEST, Graphs.FULL_TANGLE);
        for (int calls = 19; calls < 511; calls++) {
            CHECK.due("witness(" + calls % 18 + ")", x.witness(calls % 18), calls % 18 >= 9);
        }
        CHECK.due("the 512th call, kind()", x.kind(), 3);
        x = Graphs.of(10, HEAVIEST, Graphs.FULL_CHAIN);
        for (int calls = 19; calls < 511; calls += 3) {
            CHECK.due("undo()", x.undo(), 17);
            CHECK.due("add(1, 0, greatest)", x.add(1, 0, HEAVIEST), 17);
            CHECK.due("cut()", x.cut(), 18L * HEAVIEST);
        }
        CHECK.due("the 512th call, side(9)", x.side(9), 1);
    }

    // ---- "THE GRAPH has 0 .. 10 VERTICES, numbered from 0"

    private static void zeroToTenVertices() {
        for (int n = 0; n <= 10; n++) {
            CHECK.at(n + " vertices");
            PlanarSplit x = Graphs.of(n, 1);
            CHECK.due("components()", x.components(), n);
            for (int v = -2; v <= 12; v++) {
                boolean isVertex = v >= 0 && v < n;
                CHECK.due("component(" + v + ")", x.component(v), isVertex ? v : NONE);
                CHECK.due("side(" + v + ")", x.side(v), isVertex ? 0 : NONE);
            }
            for (int u = -1; u <= 10; u++) {
                for (int v = -1; v <= 10; v++) {
                    boolean isEdge = u >= 0 && u < n && v >= 0 && v < n && u != v;
                    CHECK.due("add(" + u + ", " + v + ", 1)", x.add(u, v, 1), isEdge ? 0 : NONE);
                    CHECK.due("undo()", x.undo(), isEdge ? 0 : NONE);
                }
            }
        }
    }

    // ---- "and at most 18 EDGES, numbered from 0 in the order in which they were added"

    private static void atMostEighteenEdges() {
        CHECK.at("at most 18 edges");
        for (int n = 2; n <= 10; n++) {
            PlanarSplit x = Graphs.of(n, 1);
            for (int e = 0; e < 18; e++) {
                CHECK.due("add(" + e % n + ", " + (e + 1) % n + ", 1)", x.add(e % n, (e + 1) % n, 1), e);
                CHECK.due("edges()", x.edges(), e + 1);
            }
            CHECK.due("the 19th edge", x.add(0, 1, 1), NONE);
            CHECK.due("edges()", x.edges(), 18);
            CHECK.due("block(18)", x.block(18), NONE);
            CHECK.due("undo()", x.undo(), 17);
            CHECK.due("an edge for the one taken away", x.add(1, 0, 1), 17);
            CHECK.due("the 19th edge again", x.add(1, 0, 1), NONE);
            CHECK.due("edges()", x.edges(), 18);
        }
    }

    private static void edgesNumberedInOrder() {
        CHECK.at("edges are numbered in their order");
        PlanarSplit x = Graphs.of(10, 1);
        for (int e = 0; e < 9; e++) {
            CHECK.due("add", x.add(9 - e, 8 - e, 1 << e), e);
        }
        CHECK.due("cut()", x.cut(), 511);
        for (int e = 0; e < 9; e++) {
            CHECK.due("weigh(" + e + ", 0)", x.weigh(e, 0), true);
            CHECK.due("cut() without the weight of edge " + e, x.cut(), 511 - (1 << e));
            x.weigh(e, 1 << e);
        }
        for (int e = 8; e >= 0; e--) {
            CHECK.due("undo()", x.undo(), e);
            CHECK.due("component(0) without edge " + e, x.component(0), 0);
            CHECK.due("cut() of the edges below " + e, x.cut(), (1 << e) - 1);
        }
        CHECK.due("the first again", x.add(4, 7, 1), 0);
        x.begin(2);
        CHECK.due("the first of a begun graph", x.add(0, 1, 1), 0);
    }

    // ---- "an edge has two different vertices as its ends, and a WEIGHT from 0 to 2147483647"

    private static void twoDifferentEnds() {
        CHECK.at("two different ends");
        for (int n = 1; n <= 10; n++) {
            PlanarSplit x = Graphs.of(n, 1);
            for (int v = 0; v < n; v++) {
                CHECK.due("add(" + v + ", " + v + ", 1)", x.add(v, v, 1), NONE);
            }
            CHECK.due("edges()", x.edges(), 0);
        }
    }

    private static void leastAndGreatestWeight() {
        CHECK.at("weights from 0 to 2147483647");
        PlanarSplit x = Graphs.of(2, 1);
        CHECK.due("add(0, 1, 0)", x.add(0, 1, 0), 0);
        CHECK.due("cut()", x.cut(), 0);
        CHECK.due("add(0, 1, 1)", x.add(0, 1, 1), 1);
        CHECK.due("cut()", x.cut(), 1);
        CHECK.due("add(0, 1, 2147483646)", x.add(0, 1, 2147483646), 2);
        CHECK.due("cut()", x.cut(), 2147483647L);
        CHECK.due("add(0, 1, 2147483647)", x.add(0, 1, 2147483647), 3);
        CHECK.due("cut()", x.cut(), 4294967294L);
        CHECK.due("add(0, 1, -1)", x.add(0, 1, -1), NONE);
        CHECK.due("add(0, 1, least)", x.add(0, 1, LEAST), NONE);
        CHECK.due("weigh(1, 2147483647)", x.weigh(1, 2147483647), true);
        CHECK.due("cut()", x.cut(), 6442450940L);
        CHECK.due("weigh(1, -1)", x.weigh(1, -1), false);
        CHECK.due("weigh(1, least)", x.weigh(1, LEAST), false);
        CHECK.due("cut()", x.cut(), 6442450940L);
        CHECK.due("weigh(3, 0)", x.weigh(3, 0), true);
        CHECK.due("cut()", x.cut(), 4294967293L);
    }

    // ---- "several edges may have the same two ends"

    private static void severalEdgesWithTheSameEnds() {
        for (int u = 0; u < 10; u++) {
            for (int v = 0; v < 10; v++) {
                if (u != v) {
                    CHECK.at("eighteen edges between " + u + " and " + v);
                    PlanarSplit x = Graphs.of(10, HEAVIEST, Graphs.eighteenBetween(u, v));
                    CHECK.due("edges()", x.edges(), 18);
                    CHECK.due("components()", x.components(), 9);
                    CHECK.due("blocks()", x.blocks(), 1);
                    CHECK.due("block(17)", x.block(17), 0);
                    CHECK.due("planar()", x.planar(), true);
                    CHECK.due("faces()", x.faces(), 26);
                    CHECK.due("cut()", x.cut(), 38654705646L);
                    CHECK.due("side of the lesser", x.side(Math.min(u, v)), 0);
                    CHECK.due("side of the greater", x.side(Math.max(u, v)), 1);
                    CHECK.due("crossing", Answers.crossing(x), "1".repeat(18));
                    CHECK.due("kind()", x.kind(), 0);
                }
            }
        }
    }

    // ---- "A ROW OF STEPS is a row of one or more edges"; "the same COMPONENT when they are the same or .."

    private static void oneStepAndNineSteps() {
        CHECK.at("rows of steps");
        CHECK.due("no step", Answers.components(Graphs.of(3, 1), 3), "012");
        CHECK.due("one step", Answers.components(Graphs.of(3, 1, 2, 0), 3), "010");
        PlanarSplit x = Graphs.of(10, 1, 9, 7, 7, 5, 5, 3, 3, 1, 1, 8, 8, 6, 6, 4, 4, 2);
        CHECK.due("eight steps", Answers.components(x, 10), "0111111111");
        x.add(0, 2, 1);
        CHECK.due("nine steps", Answers.components(x, 10), "0000000000");
        CHECK.due("components()", x.components(), 1);
    }

    // ---- "a CIRCLE is one that comes back to where it began, in which no edge is twice, and no vertex .."

    private static void leastAndGreatestCircle() {
        CHECK.at("circles");
        CHECK.due("two edges", Answers.blocks(Graphs.of(2, 1, 0, 1, 0, 1)), "0 0");
        CHECK.due("two edges, to and fro", Answers.blocks(Graphs.of(2, 1, 0, 1, 1, 0)), "0 0");
        PlanarSplit x = Graphs.of(10, 1, 0, 1, 1, 2, 2, 3, 3, 4, 4, 5, 5, 6, 6, 7, 7, 8, 8, 9);
        CHECK.due("blocks() before the ring is closed", x.blocks(), 9);
        x.add(9, 0, 1);
        CHECK.due("blocks() of a ring of ten", x.blocks(), 1);
        CHECK.due("a ring of ten", Answers.blocks(x), "0 0 0 0 0 0 0 0 0 0");
        x.add(0, 5, 1);
        CHECK.due("a ring of ten with a chord", Answers.blocks(x), "0 0 0 0 0 0 0 0 0 0 0");
    }

    private static void noEdgeTwiceInACircle() {
        CHECK.at("no edge is twice in a circle");
        CHECK.due("one edge", Answers.blocks(Graphs.of(2, 1, 0, 1)), "0");
        CHECK.due("two edges in a row", Answers.blocks(Graphs.of(3, 1, 0, 1, 1, 2)), "0 1");
        // To come back from a ring to the other the bridge would have to be walked twice.
        CHECK.due("two rings and a bridge",
                Answers.blocks(Graphs.of(6, 1, 0, 1, 1, 2, 2, 0, 2, 3, 3, 4, 4, 5, 5, 3)), "0 0 0 1 2 2 2");
    }

    private static void noVertexTwiceInACircle() {
        CHECK.at("no vertex is come to twice in a circle");
        CHECK.due("two rings with a vertex in common",
                Answers.blocks(Graphs.of(5, 1, 0, 1, 1, 2, 2, 0, 2, 3, 3, 4, 4, 2)), "0 0 0 1 1 1");
        CHECK.due("pairs with a vertex in common",
                Answers.blocks(Graphs.of(4, 1, 0, 1, 0, 2, 0, 3, 1, 0, 2, 0, 3, 0)), "0 1 2 0 1 2");
        CHECK.due("two rings with an edge in common",
                Answers.blocks(Graphs.of(4, 1, 0, 1, 1, 2, 2, 0, 2, 3, 3, 0)), "0 0 0 0 0");
        CHECK.due("blocks() of a full chain", Graphs.of(10, 1, Graphs.FULL_CHAIN).blocks(), 9);
        CHECK.due("a full chain", Answers.blocks(Graphs.of(10, 1, Graphs.FULL_CHAIN)),
                "0 1 2 3 4 5 6 7 8 8 7 6 5 4 3 2 1 0");
    }

    // ---- "Components have the numbers 0, 1, .. in the order of their least vertices, blocks .. least edges"

    private static void componentsByLeastVertices() {
        CHECK.at("components by their least vertices");
        CHECK.due("edges from the last on", Answers.components(Graphs.of(10, 1, 9, 4, 8, 3, 7, 2, 6, 1, 5, 0), 10),
                "0123401234");
        CHECK.due("the first with the last", Answers.components(Graphs.of(10, 1, 9, 0), 10), "0123456780");
        CHECK.due("the last two", Answers.components(Graphs.of(10, 1, 8, 9), 10), "0123456788");
        CHECK.due("all but the first", Answers.components(Graphs.of(4, 1, 3, 2, 2, 1), 4), "0111");
    }

    private static void blocksByLeastEdges() {
        CHECK.at("blocks by their least edges");
        CHECK.due("the first edge with the last", Answers.blocks(Graphs.of(10, 1, 8, 9, 6, 7, 0, 1, 9, 8)), "0 1 2 0");
        CHECK.due("the last two edges", Answers.blocks(Graphs.of(10, 1, 8, 9, 6, 7, 0, 1, 1, 0)), "0 1 2 2");
        CHECK.due("a ring closed late", Answers.blocks(Graphs.of(6, 1, 4, 5, 0, 1, 3, 4, 1, 2, 2, 3, 2, 0)),
                "0 1 2 1 3 1");
    }

    // ---- "A part is PLANAR when it can be drawn in the plane"

    private static void leastThatIsNotPlanar() {
        CHECK.at("five, or three and three");
        needsEachEdge("five", 5, Graphs.FIVE);
        needsEachEdge("three and three", 6, Graphs.THREE_AND_THREE);
        needsEachEdge("five with vertices on the way", 10, oneCopyOfLongFive());
        CHECK.due("two and seven", Graphs.of(9, 1, 0, 2, 0, 3, 0, 4, 0, 5, 0, 6, 0, 7, 0, 8,
                1, 2, 1, 3, 1, 4, 1, 5, 1, 6, 1, 7, 1, 8).planar(), true);
        CHECK.due("four, each two joined by three edges", Graphs.of(4, 1, 0, 1, 0, 2, 0, 3, 1, 2, 1, 3, 2, 3,
                0, 1, 0, 2, 0, 3, 1, 2, 1, 3, 2, 3, 0, 1, 0, 2, 0, 3, 1, 2, 1, 3, 2, 3).planar(), true);
    }

    private static int[] oneCopyOfLongFive() {
        return Graphs.without(Graphs.without(Graphs.without(Graphs.FULL_LONG_FIVE, 0), 0), 0);
    }

    private static void needsEachEdge(String name, int n, int[] ends) {
        CHECK.due(name, Graphs.of(n, 1, ends).planar(), false);
        for (int e = 0; e < ends.length / 2; e++) {
            PlanarSplit x = Graphs.of(n, 1, Graphs.without(ends, e));
            CHECK.due(name + " without edge " + e, x.planar(), true);
            CHECK.due("kind()", x.kind(), 0);
        }
    }

    private static void verticesWithTwoEdgesOnTheWay() {
        CHECK.at("vertices with two edges on the way");
        for (int e = 0; e < 10; e++) {
            longWay("five", Graphs.FIVE, 5, e, 5);
        }
        for (int e = 0; e < 9; e++) {
            longWay("three and three", Graphs.THREE_AND_THREE, 6, e, 3);
        }
    }

    /** All vertices that are left of ten are put on the way of one edge. */
    private static void longWay(String name, int[] ends, int n, int e, int kind) {
        int[] way = Graphs.without(ends, e);
        int last = ends[2 * e];
        for (int v = n; v < 10; v++) {
            way = Graphs.joined(way, last, v);
            last = v;
        }
        String which = name + " with a long way for edge " + e;
        CHECK.due(which + ", not closed", Graphs.of(10, 1, way).planar(), true);
        PlanarSplit x = Graphs.of(10, 1, Graphs.joined(way, last, ends[2 * e + 1]));
        CHECK.due(which, x.planar(), false);
        CHECK.due(which + ", kind()", x.kind(), kind);
        CHECK.due(which + ", witness", Answers.witness(x), "1".repeat(x.edges()));
    }

    private static void mostEdgesThatArePlanar() {
        CHECK.at("as many edges as can be planar");
        PlanarSplit x = Graphs.of(8, 1, Graphs.FULL_TRIANGLES);
        CHECK.due("planar()", x.planar(), true);
        CHECK.due("faces()", x.faces(), 12);
        x.undo();
        CHECK.due("faces() without an edge", x.faces(), 11);
        x.add(0, 1, 1);
        CHECK.due("planar() with an edge through the gap", x.planar(), true);
        x.undo();
        x.add(2, 4, 1);
        CHECK.due("planar() with an edge elsewhere", x.planar(), false);
        CHECK.due("faces() with an edge elsewhere", x.faces(), 0);
        CHECK.due("kind() with an edge elsewhere", x.kind(), 3);
    }

    private static void fullGraphsPlanarOrNot() {
        CHECK.at("full graphs");
        CHECK.due("a wheel", Graphs.of(10, HEAVIEST, Graphs.FULL_WHEEL).planar(), true);
        CHECK.due("a chain", Graphs.of(10, HEAVIEST, Graphs.FULL_CHAIN).planar(), true);
        CHECK.due("triangles", Graphs.of(10, HEAVIEST, Graphs.FULL_TRIANGLES).planar(), true);
        CHECK.due("three and three twice", Graphs.of(10, HEAVIEST, Graphs.FULL_TANGLE).planar(), false);
        CHECK.due("a long five", Graphs.of(10, HEAVIEST, Graphs.FULL_LONG_FIVE).planar(), false);
    }

    // ---- "A vertex without edges has one face."

    private static void vertexWithoutEdges() {
        CHECK.at("a vertex without edges");
        for (int n = 0; n <= 10; n++) {
            CHECK.due("faces() of " + n + " alone", Graphs.of(n, 1).faces(), n);
        }
        PlanarSplit x = Graphs.of(10, 1);
        for (int v = 1; v < 10; v++) {
            x.add(0, v, 1);
            CHECK.due("faces() of a star and " + (9 - v) + " alone", x.faces(), 10 - v);
        }
        CHECK.due("one vertex beside five", Graphs.of(6, 1, Graphs.FIVE).faces(), 1);
        CHECK.due("four beside three and three", Graphs.of(10, 1, Graphs.THREE_AND_THREE).faces(), 4);
    }

    // ---- "the least vertex of each component has 0"

    private static void leastVertexHasSideZero() {
        CHECK.at("the least vertex has side 0");
        for (int u = 0; u < 10; u++) {
            for (int v = 0; v < 10; v++) {
                if (u != v) {
                    PlanarSplit x = Graphs.of(10, (u + v) % 2, u, v);
                    for (int w = 0; w < 10; w++) {
                        CHECK.due("side(" + w + ") with an edge " + u + ", " + v, x.side(w),
                                w == Math.max(u, v) ? 1 : 0);
                    }
                }
            }
        }
    }

    private static void leastVertexOfEachOfManyComponents() {
        CHECK.at("the least vertex of each component has side 0");
        CHECK.due("five edges", Answers.sides(Graphs.of(10, 3, 9, 4, 8, 3, 7, 2, 6, 1, 5, 0), 10), "0000011111");
        CHECK.due("neighbours", Answers.sides(Graphs.of(10, 3, 1, 0, 2, 3, 5, 4, 6, 7, 9, 8), 10), "0101010101");
        CHECK.due("odd and even", Answers.sides(Graphs.of(10, 0, 8, 6, 6, 4, 4, 2, 2, 0, 9, 7, 7, 5, 5, 3, 3, 1), 10),
                "0011001100");
        CHECK.due("a star about the last", Answers.sides(Graphs.of(10, 5, 9, 1, 9, 2, 9, 3, 9, 4), 10), "0000000001");
    }

    // ---- "Of all ways to choose sides so it is the one with the greatest sum .. of several the one .."

    private static void greatestSumBeforeFirstEdge() {
        CHECK.at("the greatest sum comes first");
        PlanarSplit x = Graphs.of(3, 1, 0, 1, 1, 2, 2, 0);
        x.weigh(0, 0);
        CHECK.due("the lightest first", Answers.crossing(x), "011");
        x.weigh(0, HEAVIEST - 1);
        x.weigh(1, HEAVIEST);
        x.weigh(2, HEAVIEST);
        CHECK.due("lighter by one", Answers.crossing(x), "011");
        CHECK.due("cut()", x.cut(), 4294967294L);
    }

    private static void firstEdgeSettlesTies() {
        CHECK.at("the first edge settles ties");
        CHECK.due("a triangle", Answers.crossing(Graphs.of(3, 1, 0, 1, 1, 2, 2, 0)), "110");
        CHECK.due("a triangle from 2 on", Answers.crossing(Graphs.of(3, 1, 2, 0, 1, 2, 0, 1)), "110");
        CHECK.due("sides", Answers.sides(Graphs.of(3, 1, 2, 0, 1, 2, 0, 1), 3), "001");
        // Not the most edges, but the first edge that differs.
        CHECK.due("one against many", Answers.crossing(Graphs.of(3, 0, 0, 1, 1, 2, 2, 0, 2, 0, 2, 0)), "11000");
        CHECK.due("all without weight", Answers.crossing(Graphs.of(10, 0, Graphs.FULL_WHEEL)),
                "111111111000000000");
        CHECK.due("sides without weight", Answers.sides(Graphs.of(10, 0, Graphs.FULL_WHEEL), 10), "0111111111");
        CHECK.due("a full wheel", Answers.crossing(Graphs.of(10, 1, Graphs.FULL_WHEEL)), "110101010011111111");
    }

    private static void lastEdgeSettlesTies() {
        CHECK.at("the last edge settles ties");
        int[] ends = Graphs.joined(Graphs.without(Graphs.eighteenBetween(0, 1), 0), 8, 9);
        PlanarSplit x = Graphs.of(10, 0, ends);
        CHECK.due("a bridge without weight as edge 17", Answers.crossing(x), "1".repeat(18));
        CHECK.due("side(9)", x.side(9), 1);
        for (int e = 0; e < 17; e++) {
            x.weigh(e, HEAVIEST);
        }
        CHECK.due("beside the heaviest", Answers.crossing(x), "1".repeat(18));
        CHECK.due("cut()", x.cut(), 17L * HEAVIEST);
        // A triangle of the last three edges: the first two of these cross.
        int[] late = Graphs.without(Graphs.without(Graphs.eighteenBetween(3, 4), 0), 0);
        late = Graphs.joined(Graphs.without(late, 0), 7, 8, 8, 9, 9, 7);
        CHECK.due("a triangle of edges 15 to 17", Answers.crossing(Graphs.of(10, HEAVIEST, late)),
                "1".repeat(17) + "0");
    }

    private static void tiesOfGreatestWeights() {
        CHECK.at("ties of the greatest weights");
        String[] dues = {"000000111111111111", "111111000000111111", "111111111111000000"};
        CHECK.due("all the heaviest", Answers.crossing(sixOnEachSide()), dues[2]);
        for (int e = 0; e < 18; e++) {
            PlanarSplit x = sixOnEachSide();
            x.weigh(e, HEAVIEST - 1);
            CHECK.due("edge " + e + " lighter by one", Answers.crossing(x), dues[e / 6]);
            CHECK.due("cut()", x.cut(), 12L * HEAVIEST);
        }
    }

    /** A triangle with six of the heaviest edges for each of its sides. */
    private static PlanarSplit sixOnEachSide() {
        PlanarSplit x = Graphs.of(3, HEAVIEST);
        for (int e = 0; e < 18; e++) {
            x.add(e / 6, (e / 6 + 1) % 3, HEAVIEST);
        }
        return x;
    }

    // ---- "a part that has all edges at first; then, for each edge from 0 on, in order: .."

    private static void witnessLeavesFirstEdgesOut() {
        CHECK.at("the witness leaves the first edges out");
        CHECK.due("all edges are needed", Answers.witness(Graphs.five()), "1111111111");
        PlanarSplit x = Graphs.of(6, 1);
        for (int e = 0; e < 18; e++) {
            x.add(Graphs.THREE_AND_THREE[e / 2 * 2], Graphs.THREE_AND_THREE[e / 2 * 2 + 1], 1);
        }
        CHECK.due("each edge doubled", Answers.witness(x), "010101010101010101");
        CHECK.due("all edges, then all again",
                Answers.witness(Graphs.of(6, 1, Graphs.joined(Graphs.THREE_AND_THREE, Graphs.THREE_AND_THREE))),
                "000000000111111111");
        CHECK.due("an edge more at the end", Answers.witness(Graphs.of(6, 1, Graphs.joined(Graphs.FIVE, 0, 5))),
                "11111111110");
        CHECK.due("an edge more at the start",
                Answers.witness(Graphs.of(6, 1, Graphs.joined(new int[] {0, 5}, Graphs.FIVE))), "01111111111");
    }

    private static void witnessOfAFullGraph() {
        CHECK.at("the witness of a full graph");
        PlanarSplit x = Graphs.of(10, HEAVIEST, Graphs.FULL_TANGLE);
        CHECK.due("three and three twice", Answers.witness(x), "000000000111111111");
        CHECK.due("kind()", x.kind(), 3);
        x = Graphs.of(10, HEAVIEST, Graphs.FULL_LONG_FIVE);
        CHECK.due("a long five", Answers.witness(x), "000111111111111111");
        CHECK.due("kind()", x.kind(), 5);
        // Five, and three and three, have the edge from 0 to 1 in common.
        int[] rest = {0, 7, 0, 8, 5, 1, 5, 7, 5, 8, 6, 1, 6, 7, 6, 8};
        x = Graphs.of(10, 1, Graphs.joined(rest, Graphs.FIVE));
        CHECK.due("five last", Answers.witness(x), "000000001111111111");
        CHECK.due("kind()", x.kind(), 5);
        x = Graphs.of(10, 1, Graphs.joined(Graphs.without(Graphs.FIVE, 0), Graphs.joined(rest, 0, 1)));
        CHECK.due("three and three last", Answers.witness(x), "000000000111111111");
        CHECK.due("kind()", x.kind(), 3);
    }

    // ---- "(So it is a smallest one: it has 5 vertices with four edges each, or 6 with three, ..)"

    private static void witnessIsSmallest() {
        smallest("five", 5, Graphs.FIVE);
        smallest("three and three", 6, Graphs.THREE_AND_THREE);
        smallest("Petersen's", 10, Graphs.PETERSEN);
        smallest("five beside a triangle", 10, Graphs.TRIANGLE_AND_FIVE);
        smallest("three and three twice", 10, Graphs.FULL_TANGLE);
        smallest("a long five", 10, Graphs.FULL_LONG_FIVE);
        smallest("triangles", 8, Graphs.joined(Graphs.without(Graphs.FULL_TRIANGLES, 17), 2, 4));
    }

    private static void smallest(String name, int n, int[] ends) {
        CHECK.at("the witness is smallest: " + name);
        PlanarSplit x = Graphs.of(n, 1, ends);
        int[] part = {};
        int[] degrees = new int[n];
        for (int e = 0; e < ends.length / 2; e++) {
            if (x.witness(e)) {
                part = Graphs.joined(part, ends[2 * e], ends[2 * e + 1]);
                degrees[ends[2 * e]]++;
                degrees[ends[2 * e + 1]]++;
            }
        }
        needsEachEdge("the witness", n, part);
        int kind = x.kind();
        CHECK.due("vertices with four edges", count(degrees, 4), kind == 5 ? 5 : 0);
        CHECK.due("vertices with three edges", count(degrees, 3), kind == 5 ? 0 : 6);
        CHECK.due("others with two or none", count(degrees, 0) + count(degrees, 2), n - (kind == 5 ? 5 : 6));
    }

    private static int count(int[] degrees, int wanted) {
        int sum = 0;
        for (int degree : degrees) {
            sum += degree == wanted ? 1 : 0;
        }
        return sum;
    }

    // ---- "What planar() and what is below it answer is of the graph as it is at the time."

    private static void answersOfTheGraphAtTheTime() {
        atTheTime("planar()", x -> x.planar() ? 1 : 0, 0, 1);
        atTheTime("faces()", PlanarSplit::faces, 0, 6);
        atTheTime("cut()", PlanarSplit::cut, NONE, 6);
        atTheTime("side(1)", x -> x.side(1), NONE, 1);
        atTheTime("crosses(0)", x -> x.crosses(0) ? 1 : 0, 0, 1);
        atTheTime("witness(0)", x -> x.witness(0) ? 1 : 0, 1, 0);
        atTheTime("kind()", PlanarSplit::kind, 5, 0);
    }

    /** One question alone, of five and of five without its last edge in turn. */
    private static void atTheTime(String name, ToLongFunction<PlanarSplit> question, long whole, long less) {
        CHECK.at("as it is at the time");
        PlanarSplit x = Graphs.five();
        for (int times = 0; times < 3; times++) {
            CHECK.due(name + " of five", question.applyAsLong(x), whole);
            x.undo();
            CHECK.due(name + " without an edge", question.applyAsLong(x), less);
            x.add(4, 3, 1);
        }
        CHECK.due(name + " of five again", question.applyAsLong(x), whole);
        x.undo();
        x.weigh(1, 0);
        x.weigh(2, 0);
        x.weigh(1, 1);
        x.weigh(2, 1);
        CHECK.due(name + " with weights changed and changed back", question.applyAsLong(x), less);
        x.begin(0);
        long empty = name.equals("planar()") ? 1 : name.startsWith("side") ? NONE : 0;
        CHECK.due(name + " of the empty graph", question.applyAsLong(x), empty);
    }

    private static void witnessOfTheGraphAtTheTime() {
        CHECK.at("the witness as it is at the time");
        PlanarSplit x = Graphs.five();
        CHECK.due("five", Answers.witness(x), "1111111111");
        x.add(0, 1, 1);
        CHECK.due("with its first edge doubled", Answers.witness(x), "01111111111");
        x.add(4, 3, 1);
        CHECK.due("with its last edge doubled too", Answers.witness(x), "011111111011");
        x.weigh(0, HEAVIEST);
        CHECK.due("with another weight", Answers.witness(x), "011111111011");
        x.undo();
        x.undo();
        CHECK.due("five again", Answers.witness(x), "1111111111");
        CHECK.due("kind() of five", x.kind(), 5);
        x.begin(6);
        for (int i = 0; i < 18; i += 2) {
            x.add(Graphs.THREE_AND_THREE[i], Graphs.THREE_AND_THREE[i + 1], 1);
        }
        CHECK.due("kind() of three and three", x.kind(), 3);
    }

    private static void splitOfTheGraphAtTheTime() {
        CHECK.at("the split as it is at the time");
        PlanarSplit x = Graphs.of(3, 1, 0, 1, 1, 2, 2, 0);
        CHECK.due("a triangle", Answers.sides(x, 3), "010");
        x.weigh(2, 2);
        CHECK.due("with a heavier last edge", Answers.sides(x, 3), "011");
        x.weigh(1, 2);
        CHECK.due("with a lighter first edge", Answers.sides(x, 3), "001");
        x.undo();
        CHECK.due("without the last edge", Answers.sides(x, 3), "010");
        x.undo();
        x.undo();
        CHECK.due("without edges", Answers.sides(x, 3), "000");
        x.add(2, 0, 0);
        CHECK.due("with another edge", Answers.sides(x, 3), "001");
        x.begin(3);
        CHECK.due("begun anew", Answers.sides(x, 3), "000");
    }
}
