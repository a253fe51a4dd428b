/** The sentences of promises 1 to 17 that name a boundary case, each with a test of its own. */
public final class BoundariesTest {
    private static final int NONE = PlanarSplit.NONE;
    private static final int LEAST = Integer.MIN_VALUE;
    private static final int GREATEST = Integer.MAX_VALUE;
    /** Numbers that no vertex and no edge ever has; some look like 0 or 1 when only low bits are seen. */
    private static final int[] NEVER = {-1, -2, -10, -18, -32, -31, 18, 19, 31, 32, 33, 64, 65, 256, 65536,
        LEAST, LEAST + 1, GREATEST, GREATEST - 1};

    private static final Check CHECK = new Check();

    public static void main(String[] args) {
        newObjectHasNoVertices();
        newObjectHasNoEdges();
        newObjectAnswersAsTheEmptyGraph();
        beginTakesZeroToTen();
        beginRefusesOthers();
        beginLeavesNoEdges();
        beginLeavesNoVerticesBeyond();
        addRefusesWhatIsNoVertex();
        addRefusesTheSameVertex();
        addRefusesWeightsBelowZero();
        addRefusesBeyondEighteen();
        undoTakesTheGreatest();
        undoRefusesWhenThereIsNone();
        weighTakesFirstAndLastEdge();
        weighRefusesWhatIsNoEdge();
        weighRefusesWeightsBelowZero();
        edgesFromNoneToEighteen();
        componentsFromNoneToTen();
        componentRefusesWhatIsNoVertex();
        blocksFromNoneToNine();
        blockRefusesWhatIsNoEdge();
        planarFromEmptyToFull();
        facesFromNoneToTwentySix();
        facesOfComponentsThatAreNotPlanar();
        cutFromNothingToTheGreatest();
        cutOfWhatIsNotPlanar();
        sideRefusesWhatIsNoVertex();
        sideOfWhatIsNotPlanar();
        crossesRefusesWhatIsNoEdge();
        crossesOfWhatIsNotPlanar();
        witnessRefusesWhatIsNoEdge();
        witnessOfWhatIsPlanar();
        kindOfWhatIsPlanar();
        kindOfWhatIsNotPlanar();
        CHECK.end();
    }

    // ---- promise 1: "No vertices, no edges."

    private static void newObjectHasNoVertices() {
        CHECK.at("promise 1, no vertices");
        CHECK.due("components()", new PlanarSplit().components(), 0);
        CHECK.due("faces()", new PlanarSplit().faces(), 0);
        CHECK.due("component(0)", new PlanarSplit().component(0), NONE);
        CHECK.due("side(0)", new PlanarSplit().side(0), NONE);
        CHECK.due("add(0, 1, 1)", new PlanarSplit().add(0, 1, 1), NONE);
        CHECK.due("add(1, 0, 0)", new PlanarSplit().add(1, 0, 0), NONE);
        for (int v : NEVER) {
            CHECK.due("component(" + v + ")", new PlanarSplit().component(v), NONE);
            CHECK.due("side(" + v + ")", new PlanarSplit().side(v), NONE);
        }
    }

    private static void newObjectHasNoEdges() {
        CHECK.at("promise 1, no edges");
        CHECK.due("edges()", new PlanarSplit().edges(), 0);
        CHECK.due("blocks()", new PlanarSplit().blocks(), 0);
        CHECK.due("undo()", new PlanarSplit().undo(), NONE);
        CHECK.due("weigh(0, 0)", new PlanarSplit().weigh(0, 0), false);
        CHECK.due("block(0)", new PlanarSplit().block(0), NONE);
        CHECK.due("crosses(0)", new PlanarSplit().crosses(0), false);
        CHECK.due("witness(0)", new PlanarSplit().witness(0), false);
        for (int e : NEVER) {
            CHECK.due("weigh(" + e + ", 0)", new PlanarSplit().weigh(e, 0), false);
            CHECK.due("block(" + e + ")", new PlanarSplit().block(e), NONE);
            CHECK.due("crosses(" + e + ")", new PlanarSplit().crosses(e), false);
            CHECK.due("witness(" + e + ")", new PlanarSplit().witness(e), false);
        }
    }

    private static void newObjectAnswersAsTheEmptyGraph() {
        CHECK.at("promise 1, the empty graph");
        CHECK.due("planar()", new PlanarSplit().planar(), true);
        CHECK.due("cut()", new PlanarSplit().cut(), 0);
        CHECK.due("kind()", new PlanarSplit().kind(), 0);
        CHECK.due("all answers", Answers.all(new PlanarSplit()), Answers.all(Graphs.of(0, 1)));
        CHECK.due("all answers", Answers.all(new PlanarSplit()),
                "0 0 0 true 0 0 0 " + "-1".repeat(11) + " " + "-1".repeat(11) + "   ");
    }

    // ---- promise 2: "The graph has n vertices and no edges then. Answers true; false when n is not 0 .. 10."

    private static void beginTakesZeroToTen() {
        CHECK.at("promise 2, 0 .. 10");
        for (int n = 0; n <= 10; n++) {
            PlanarSplit x = new PlanarSplit();
            CHECK.due("begin(" + n + ")", x.begin(n), true);
            CHECK.due("components()", x.components(), n);
            CHECK.due("begin(" + n + ") again", x.begin(n), true);
            CHECK.due("components()", x.components(), n);
            CHECK.due("edges()", x.edges(), 0);
        }
    }

    private static void beginRefusesOthers() {
        CHECK.at("promise 2, not 0 .. 10");
        for (int n : new int[] {-1, 11, -10, 12, 16, 31, 32, 42, 256, 65546, LEAST, LEAST + 10, GREATEST}) {
            CHECK.due("begin(" + n + ") of a new object", new PlanarSplit().begin(n), false);
            PlanarSplit x = Graphs.of(10, 1, Graphs.FULL_WHEEL);
            CHECK.due("begin(" + n + ") of a full graph", x.begin(n), false);
            CHECK.due("edges() behind it", x.edges(), 18);
            CHECK.due("components() behind it", x.components(), 1);
            CHECK.due("side(9) behind it", x.side(9), 0);
        }
    }

    private static void beginLeavesNoEdges() {
        CHECK.at("promise 2, no edges then");
        for (int[] ends : new int[][] {Graphs.FULL_TANGLE, Graphs.FULL_CHAIN}) {
            for (int n = 0; n <= 10; n++) {
                PlanarSplit x = Graphs.of(10, GREATEST, ends);
                Answers.all(x);
                CHECK.due("begin(" + n + ")", x.begin(n), true);
                CHECK.due("all answers", Answers.all(x), Answers.all(Graphs.of(n, 1)));
                CHECK.due("undo()", x.undo(), NONE);
                CHECK.due("weigh(0, 1)", x.weigh(0, 1), false);
            }
        }
    }

    private static void beginLeavesNoVerticesBeyond() {
        CHECK.at("promise 2, n vertices then");
        PlanarSplit x = Graphs.of(10, 1, 0, 9, 9, 8);
        x.begin(9);
        CHECK.due("component(9)", x.component(9), NONE);
        CHECK.due("component(8)", x.component(8), 8);
        CHECK.due("add(0, 9, 1)", x.add(0, 9, 1), NONE);
        x.begin(0);
        CHECK.due("component(0)", x.component(0), NONE);
        x.begin(10);
        CHECK.due("component(9)", x.component(9), 9);
        CHECK.due("add(0, 9, 1)", x.add(0, 9, 1), 0);
    }

    // ---- promise 3: "NONE when u or v is no vertex, they are the same, weight is below 0, or there are 18."

    private static void addRefusesWhatIsNoVertex() {
        for (int n = 0; n <= 10; n++) {
            CHECK.at("promise 3, no vertex of " + n);
            for (int wrong : Graphs.joined(NEVER, n, n + 1, 10)) {
                PlanarSplit x = Graphs.of(n, 1);
                CHECK.due("add(" + wrong + ", 0, 1)", x.add(wrong, 0, 1), NONE);
                CHECK.due("add(0, " + wrong + ", 1)", x.add(0, wrong, 1), NONE);
                CHECK.due("add(" + (n - 1) + ", " + wrong + ", 1)", x.add(n - 1, wrong, 1), NONE);
                CHECK.due("add(" + wrong + ", " + wrong + ", 1)", x.add(wrong, wrong, 1), NONE);
                CHECK.due("edges()", x.edges(), 0);
            }
        }
    }

    private static void addRefusesTheSameVertex() {
        CHECK.at("promise 3, the same");
        PlanarSplit x = Graphs.of(10, 1, 0, 1, 8, 9);
        for (int v = 0; v < 10; v++) {
            CHECK.due("add(" + v + ", " + v + ", 1)", x.add(v, v, 1), NONE);
        }
        CHECK.due("edges()", x.edges(), 2);
        CHECK.due("add(8, 9, 1)", x.add(8, 9, 1), 2);
        CHECK.due("add(0, 9, 1)", x.add(0, 9, 1), 3);
    }

    private static void addRefusesWeightsBelowZero() {
        CHECK.at("promise 3, weight below 0");
        PlanarSplit x = Graphs.of(2, 1);
        for (int weight : new int[] {-1, -2, -65536, LEAST, LEAST + 1}) {
            CHECK.due("add(0, 1, " + weight + ")", x.add(0, 1, weight), NONE);
        }
        CHECK.due("edges()", x.edges(), 0);
        CHECK.due("add(0, 1, 0)", x.add(0, 1, 0), 0);
        CHECK.due("add(0, 1, greatest)", x.add(0, 1, GREATEST), 1);
        CHECK.due("cut()", x.cut(), GREATEST);
    }

    private static void addRefusesBeyondEighteen() {
        CHECK.at("promise 3, there are 18");
        PlanarSplit x = Graphs.of(10, 1, Graphs.without(Graphs.FULL_WHEEL, 17));
        CHECK.due("the 18th", x.add(9, 1, 1), 17);
        CHECK.due("the 19th", x.add(9, 1, 1), NONE);
        CHECK.due("the 19th, of no weight", x.add(2, 4, 0), NONE);
        CHECK.due("all answers", Answers.all(x), Answers.all(Graphs.of(10, 1, Graphs.FULL_WHEEL)));
        CHECK.due("undo()", x.undo(), 17);
        CHECK.due("the 18th again", x.add(9, 1, 1), 17);
        CHECK.due("begin(2)", x.begin(2), true);
        CHECK.due("the first of a begun graph", x.add(0, 1, 1), 0);
    }

    // ---- promise 4: "Takes the edge with the greatest number away .. NONE when there is none."

    private static void undoTakesTheGreatest() {
        CHECK.at("promise 4, the greatest number");
        PlanarSplit x = Graphs.of(10, 1, Graphs.FULL_WHEEL);
        for (int e = 17; e >= 0; e--) {
            CHECK.due("undo()", x.undo(), e);
            CHECK.due("edges()", x.edges(), e);
            CHECK.due("block(" + e + ")", x.block(e), NONE);
            CHECK.due("weigh(" + e + ", 1)", x.weigh(e, 1), false);
            CHECK.due("planar()", x.planar(), true);
            CHECK.due("faces()", x.faces(), e > 9 ? e - 8 : 10 - e);
        }
        CHECK.due("components()", x.components(), 10);
        x = Graphs.of(2, 1, 0, 1);
        CHECK.due("side(1)", x.side(1), 1);
        x.undo();
        CHECK.due("side(1) without the edge", x.side(1), 0);
    }

    private static void undoRefusesWhenThereIsNone() {
        CHECK.at("promise 4, there is none");
        PlanarSplit x = new PlanarSplit();
        CHECK.due("undo() of a new object", x.undo(), NONE);
        x.begin(2);
        CHECK.due("undo() of a begun graph", x.undo(), NONE);
        CHECK.due("undo() again", x.undo(), NONE);
        CHECK.due("edges()", x.edges(), 0);
        CHECK.due("the first edge behind it", x.add(0, 1, 5), 0);
        CHECK.due("undo()", x.undo(), 0);
        CHECK.due("undo() with all taken away", x.undo(), NONE);
        CHECK.due("edges()", x.edges(), 0);
        CHECK.due("the first edge again", x.add(1, 0, 6), 0);
        CHECK.due("cut()", x.cut(), 6);
        x.begin(2);
        CHECK.due("undo() of a graph begun anew", x.undo(), NONE);
    }

    // ---- promise 5: "false when there is no such edge, or weight is below 0."

    private static void weighTakesFirstAndLastEdge() {
        CHECK.at("promise 5, the first and the last edge");
        PlanarSplit x = Graphs.of(10, 0, Graphs.FULL_CHAIN);
        CHECK.due("weigh(0, greatest)", x.weigh(0, GREATEST), true);
        CHECK.due("cut()", x.cut(), GREATEST);
        CHECK.due("weigh(17, greatest)", x.weigh(17, GREATEST), true);
        CHECK.due("cut()", x.cut(), 2L * GREATEST);
        CHECK.due("weigh(0, 0)", x.weigh(0, 0), true);
        CHECK.due("cut()", x.cut(), GREATEST);
        CHECK.due("weigh(17, 1)", x.weigh(17, 1), true);
        CHECK.due("cut()", x.cut(), 1);
        x.undo();
        CHECK.due("cut() without edge 17", x.cut(), 0);
        x.add(0, 1, 7);
        CHECK.due("cut() with another edge 17", x.cut(), 7);
    }

    private static void weighRefusesWhatIsNoEdge() {
        CHECK.at("promise 5, no such edge");
        for (int m = 0; m <= 18; m++) {
            PlanarSplit x = Graphs.of(2, 1);
            for (int e = 0; e < m; e++) {
                x.add(0, 1, 1);
            }
            for (int wrong : Graphs.joined(NEVER, m, m + 1)) {
                CHECK.due("weigh(" + wrong + ", 5) with " + m + " edges", x.weigh(wrong, 5), false);
            }
            CHECK.due("cut()", x.cut(), m);
            CHECK.due("weigh(" + (m - 1) + ", 5)", x.weigh(m - 1, 5), m > 0);
            CHECK.due("cut()", x.cut(), m > 0 ? m + 4 : 0);
        }
    }

    private static void weighRefusesWeightsBelowZero() {
        CHECK.at("promise 5, weight below 0");
        PlanarSplit x = Graphs.of(2, 3, 0, 1);
        for (int weight : new int[] {-1, -2, -65536, LEAST, LEAST + 1}) {
            CHECK.due("weigh(0, " + weight + ")", x.weigh(0, weight), false);
            CHECK.due("cut()", x.cut(), 3);
        }
        CHECK.due("weigh(1, -1)", x.weigh(1, -1), false);
        CHECK.due("weigh(0, 0)", x.weigh(0, 0), true);
        CHECK.due("cut()", x.cut(), 0);
        CHECK.due("weigh(0, greatest)", x.weigh(0, GREATEST), true);
        CHECK.due("cut()", x.cut(), GREATEST);
    }

    // ---- promise 6

    private static void edgesFromNoneToEighteen() {
        CHECK.at("promise 6");
        CHECK.due("a new object", new PlanarSplit().edges(), 0);
        CHECK.due("ten vertices alone", Graphs.of(10, 1).edges(), 0);
        CHECK.due("one edge", Graphs.of(10, 0, 9, 0).edges(), 1);
        CHECK.due("seventeen", Graphs.of(10, 1, Graphs.without(Graphs.FULL_TANGLE, 3)).edges(), 17);
        CHECK.due("eighteen", Graphs.of(10, 1, Graphs.FULL_TANGLE).edges(), 18);
        CHECK.due("nineteen given", Graphs.of(10, 1, Graphs.joined(Graphs.FULL_TANGLE, 0, 1)).edges(), 18);
        CHECK.due("from a vertex to itself", Graphs.of(10, 1, 0, 0, 1, 1).edges(), 0);
    }

    // ---- promises 7 and 8: "NONE when there is no such vertex."

    private static void componentsFromNoneToTen() {
        CHECK.at("promise 7");
        CHECK.due("no vertex", Graphs.of(0, 1).components(), 0);
        CHECK.due("one vertex", Graphs.of(1, 1).components(), 1);
        CHECK.due("ten alone", Graphs.of(10, 1).components(), 10);
        CHECK.due("eighteen edges between the last two",
                Graphs.of(10, 1, Graphs.eighteenBetween(9, 8)).components(), 9);
        CHECK.due("a full tangle", Graphs.of(10, 1, Graphs.FULL_TANGLE).components(), 1);
        CHECK.due("full triangles and two alone", Graphs.of(10, 1, Graphs.FULL_TRIANGLES).components(), 3);
    }

    private static void componentRefusesWhatIsNoVertex() {
        for (int n = 0; n <= 10; n++) {
            CHECK.at("promise 8, no vertex of " + n);
            PlanarSplit x = Graphs.of(n, 1);
            for (int wrong : Graphs.joined(NEVER, n, n + 1, 10)) {
                CHECK.due("component(" + wrong + ")", x.component(wrong), NONE);
            }
            CHECK.due("the last", x.component(n - 1), n == 0 ? NONE : n - 1);
        }
        CHECK.at("promise 8, of a graph that is not planar");
        CHECK.due("component(9)", Graphs.of(10, 1, Graphs.FULL_TANGLE).component(9), 0);
        CHECK.due("component(10)", Graphs.of(10, 1, Graphs.FULL_TANGLE).component(10), NONE);
    }

    // ---- promises 9 and 10: "NONE when there is no such edge."

    private static void blocksFromNoneToNine() {
        CHECK.at("promise 9");
        CHECK.due("no vertex", Graphs.of(0, 1).blocks(), 0);
        CHECK.due("ten alone", Graphs.of(10, 1).blocks(), 0);
        CHECK.due("one edge", Graphs.of(10, 1, 8, 9).blocks(), 1);
        CHECK.due("a star of nine", Graphs.of(10, 1, 9, 0, 9, 1, 9, 2, 9, 3, 9, 4, 9, 5, 9, 6, 9, 7, 9, 8).blocks(), 9);
        CHECK.due("a full chain", Graphs.of(10, 1, Graphs.FULL_CHAIN).blocks(), 9);
        CHECK.due("a full wheel", Graphs.of(10, 1, Graphs.FULL_WHEEL).blocks(), 1);
        CHECK.due("a full tangle", Graphs.of(10, 1, Graphs.FULL_TANGLE).blocks(), 1);
    }

    private static void blockRefusesWhatIsNoEdge() {
        CHECK.at("promise 10, no such edge");
        for (int m = 0; m <= 18; m++) {
            PlanarSplit x = firstEdges(10, Graphs.FULL_CHAIN, m);
            for (int wrong : Graphs.joined(NEVER, m, m + 1)) {
                CHECK.due("block(" + wrong + ") with " + m + " edges", x.block(wrong), NONE);
            }
            CHECK.due("the last of " + m, x.block(m - 1), m == 0 ? NONE : m <= 9 ? m - 1 : 18 - m);
        }
    }

    private static PlanarSplit firstEdges(int n, int[] ends, int m) {
        return Graphs.of(n, 1, java.util.Arrays.copyOf(ends, 2 * m));
    }

    // ---- promise 11

    private static void planarFromEmptyToFull() {
        CHECK.at("promise 11");
        for (int n = 0; n <= 10; n++) {
            CHECK.due(n + " alone", Graphs.of(n, 1).planar(), true);
        }
        for (int m = 0; m <= 18; m++) {
            CHECK.due(m + " edges of a wheel", firstEdges(10, Graphs.FULL_WHEEL, m).planar(), true);
            CHECK.due(m + " edges of a tangle", firstEdges(10, Graphs.FULL_TANGLE, m).planar(), m < 9);
            CHECK.due(m + " edges of triangles", firstEdges(10, Graphs.FULL_TRIANGLES, m).planar(), true);
            CHECK.due(m + " edges of a long five", firstEdges(10, Graphs.FULL_LONG_FIVE, m).planar(), m < 18);
        }
    }

    // ---- promise 12: "of components that are not planar none are counted."

    private static void facesFromNoneToTwentySix() {
        CHECK.at("promise 12, from none to 26");
        CHECK.due("no vertex", Graphs.of(0, 1).faces(), 0);
        CHECK.due("one vertex", Graphs.of(1, 1).faces(), 1);
        CHECK.due("one edge", Graphs.of(2, 1, 0, 1).faces(), 1);
        CHECK.due("two edges with the same ends", Graphs.of(2, 1, 0, 1, 0, 1).faces(), 2);
        CHECK.due("a triangle", Graphs.of(3, 1, 0, 1, 1, 2, 2, 0).faces(), 2);
        CHECK.due("a full wheel", Graphs.of(10, 1, Graphs.FULL_WHEEL).faces(), 10);
        CHECK.due("a full chain", Graphs.of(10, 1, Graphs.FULL_CHAIN).faces(), 10);
        CHECK.due("full triangles", Graphs.of(8, 1, Graphs.FULL_TRIANGLES).faces(), 12);
        CHECK.due("full triangles and two alone", Graphs.of(10, 1, Graphs.FULL_TRIANGLES).faces(), 14);
        CHECK.due("five with three edges each", Graphs.of(10, 1, 0, 1, 0, 1, 0, 1, 2, 3, 2, 3, 2, 3, 4, 5, 4, 5, 4, 5,
                6, 7, 6, 7, 6, 7, 8, 9, 8, 9, 8, 9).faces(), 15);
        CHECK.due("eighteen and eight alone", Graphs.of(10, 1, Graphs.eighteenBetween(3, 6)).faces(), 26);
    }

    private static void facesOfComponentsThatAreNotPlanar() {
        CHECK.at("promise 12, not planar");
        CHECK.due("five", Graphs.five().faces(), 0);
        CHECK.due("a full tangle", Graphs.of(10, 1, Graphs.FULL_TANGLE).faces(), 0);
        CHECK.due("a full long five", Graphs.of(10, 1, Graphs.FULL_LONG_FIVE).faces(), 0);
        CHECK.due("five and five alone", Graphs.of(10, 1, Graphs.FIVE).faces(), 5);
        CHECK.due("five and a ring of five", Graphs.of(10, 1, Graphs.joined(Graphs.FIVE,
                5, 6, 6, 7, 7, 8, 8, 9, 9, 5)).faces(), 2);
        CHECK.due("three and three and four, full", Graphs.of(10, 1, Graphs.joined(Graphs.THREE_AND_THREE,
                6, 7, 6, 8, 6, 9, 7, 8, 7, 9, 8, 9, 9, 8, 9, 7, 9, 6)).faces(), 7);
        // What hangs on a part that is not planar is of the same component, be it planar itself or not.
        CHECK.due("five with a ring hung on", Graphs.of(7, 1, Graphs.joined(Graphs.FIVE, 4, 5, 5, 6, 6, 4)).faces(), 0);
        CHECK.due("five with an edge hung on, and one alone",
                Graphs.of(7, 1, Graphs.joined(Graphs.FIVE, 5, 4)).faces(), 1);
        CHECK.due("a ring with five hung on", Graphs.of(8, 1, Graphs.joined(new int[] {5, 6, 6, 7, 7, 5, 7, 0},
                Graphs.FIVE)).faces(), 0);
    }

    // ---- promise 13: "NONE when the graph is not planar."

    private static void cutFromNothingToTheGreatest() {
        CHECK.at("promise 13, from nothing to the greatest");
        CHECK.due("no vertex", Graphs.of(0, 1).cut(), 0);
        CHECK.due("one vertex", Graphs.of(1, 1).cut(), 0);
        CHECK.due("ten alone", Graphs.of(10, 1).cut(), 0);
        CHECK.due("one edge without weight", Graphs.of(2, 0, 0, 1).cut(), 0);
        CHECK.due("one edge of the greatest weight", Graphs.of(2, GREATEST, 0, 1).cut(), 2147483647L);
        CHECK.due("two edges of the greatest weight", Graphs.of(3, GREATEST, 0, 1, 1, 2).cut(), 4294967294L);
        CHECK.due("three edges of the greatest weight", Graphs.of(2, GREATEST, 0, 1, 0, 1, 1, 0).cut(), 6442450941L);
        CHECK.due("a full chain of the greatest", Graphs.of(10, GREATEST, Graphs.FULL_CHAIN).cut(), 38654705646L);
        CHECK.due("a full wheel of the greatest", Graphs.of(10, GREATEST, Graphs.FULL_WHEEL).cut(), 27917287411L);
        CHECK.due("a full chain without weight", Graphs.of(10, 0, Graphs.FULL_CHAIN).cut(), 0);
    }

    private static void cutOfWhatIsNotPlanar() {
        CHECK.at("promise 13, not planar");
        CHECK.due("five", Graphs.five().cut(), NONE);
        CHECK.due("three and three", Graphs.threeAndThree().cut(), NONE);
        CHECK.due("three and three without weight", Graphs.of(6, 0, Graphs.THREE_AND_THREE).cut(), NONE);
        CHECK.due("a full tangle of the greatest weight", Graphs.of(10, GREATEST, Graphs.FULL_TANGLE).cut(), NONE);
        CHECK.due("five beside a triangle", Graphs.triangleAndFive().cut(), NONE);
        PlanarSplit x = Graphs.of(6, 1, Graphs.without(Graphs.THREE_AND_THREE, 8));
        CHECK.due("three and three without the last edge", x.cut(), 8);
        x.add(2, 5, 1);
        CHECK.due("with it", x.cut(), NONE);
        x.weigh(0, 9);
        CHECK.due("with another weight", x.cut(), NONE);
        x.undo();
        CHECK.due("without it again", x.cut(), 16);
    }

    // ---- promise 14: "NONE when there is no such vertex, or the graph is not planar."

    private static void sideRefusesWhatIsNoVertex() {
        for (int n = 0; n <= 10; n++) {
            CHECK.at("promise 14, no vertex of " + n);
            PlanarSplit x = Graphs.of(n, 1, 0, n - 1);
            for (int wrong : Graphs.joined(NEVER, n, n + 1, 10)) {
                CHECK.due("side(" + wrong + ")", x.side(wrong), NONE);
            }
            CHECK.due("side(0)", x.side(0), n == 0 ? NONE : 0);
            CHECK.due("the last", x.side(n - 1), n == 0 ? NONE : n == 1 ? 0 : 1);
        }
        CHECK.at("promise 14, full");
        CHECK.due("a full chain", Answers.sides(Graphs.of(10, GREATEST, Graphs.FULL_CHAIN), 11), "0101010101-1");
        CHECK.due("a full wheel", Answers.sides(Graphs.of(10, GREATEST, Graphs.FULL_WHEEL), 11), "0110101010-1");
    }

    private static void sideOfWhatIsNotPlanar() {
        CHECK.at("promise 14, not planar");
        CHECK.due("five", Answers.sides(Graphs.five(), 6), "-1".repeat(6));
        CHECK.due("a full tangle", Answers.sides(Graphs.of(10, 1, Graphs.FULL_TANGLE), 11), "-1".repeat(11));
        // The triangle's own component is planar, the graph is not.
        PlanarSplit x = Graphs.triangleAndFive();
        CHECK.due("five beside a triangle", Answers.sides(x, 10), "-1".repeat(10));
        for (int wrong : NEVER) {
            CHECK.due("side(" + wrong + ")", x.side(wrong), NONE);
        }
        x = Graphs.of(6, 1, Graphs.FIVE);
        CHECK.due("side(5), a vertex alone", x.side(5), NONE);
        x.undo();
        CHECK.due("side(5) without an edge", x.side(5), 0);
    }

    // ---- promise 15: "false when there is no such edge, or the graph is not planar."

    private static void crossesRefusesWhatIsNoEdge() {
        CHECK.at("promise 15, no such edge");
        for (int m = 0; m <= 18; m++) {
            PlanarSplit x = firstEdges(10, Graphs.FULL_CHAIN, m);
            for (int wrong : Graphs.joined(NEVER, m, m + 1)) {
                CHECK.due("crosses(" + wrong + ") with " + m + " edges", x.crosses(wrong), false);
            }
            CHECK.due("crosses(0)", x.crosses(0), m > 0);
            CHECK.due("the last of " + m, x.crosses(m - 1), m > 0);
        }
        PlanarSplit x = Graphs.of(2, 1, 0, 1, 0, 1);
        CHECK.due("crosses(1)", x.crosses(1), true);
        x.undo();
        CHECK.due("crosses(1) when taken away", x.crosses(1), false);
        CHECK.due("crosses(0)", x.crosses(0), true);
    }

    private static void crossesOfWhatIsNotPlanar() {
        CHECK.at("promise 15, not planar");
        CHECK.due("five", Answers.crossing(Graphs.five()), "0".repeat(10));
        CHECK.due("three and three", Answers.crossing(Graphs.threeAndThree()), "0".repeat(9));
        CHECK.due("a full tangle", Answers.crossing(Graphs.of(10, GREATEST, Graphs.FULL_TANGLE)), "0".repeat(18));
        CHECK.due("five beside a triangle", Answers.crossing(Graphs.triangleAndFive()), "0".repeat(13));
        PlanarSplit x = Graphs.of(7, 1, Graphs.joined(new int[] {5, 6}, Graphs.FIVE));
        CHECK.due("an edge beside five", x.crosses(0), false);
        x.undo();
        CHECK.due("an edge beside five without an edge", x.crosses(0), true);
        x.add(4, 3, 1);
        CHECK.due("an edge beside five again", x.crosses(0), false);
        for (int wrong : NEVER) {
            CHECK.due("crosses(" + wrong + ")", x.crosses(wrong), false);
        }
    }

    // ---- promise 16: "false when there is no such edge, or the graph is planar."

    private static void witnessRefusesWhatIsNoEdge() {
        CHECK.at("promise 16, no such edge");
        for (int m = 9; m <= 18; m++) {
            PlanarSplit x = firstEdges(10, Graphs.joined(Graphs.THREE_AND_THREE, Graphs.THREE_AND_THREE), m);
            for (int wrong : Graphs.joined(NEVER, m, m + 1)) {
                CHECK.due("witness(" + wrong + ") with " + m + " edges", x.witness(wrong), false);
            }
            CHECK.due("the last of " + m, x.witness(m - 1), true);
            CHECK.due("witness(8)", x.witness(8), m < 18);
        }
        PlanarSplit x = Graphs.of(5, 1, Graphs.joined(Graphs.FIVE, 0, 1));
        CHECK.due("witness(10)", x.witness(10), true);
        CHECK.due("witness(0)", x.witness(0), false);
        x.undo();
        CHECK.due("witness(10) when taken away", x.witness(10), false);
        CHECK.due("witness(0) then", x.witness(0), true);
    }

    private static void witnessOfWhatIsPlanar() {
        CHECK.at("promise 16, planar");
        CHECK.due("a full wheel", Answers.witness(Graphs.of(10, 1, Graphs.FULL_WHEEL)), "0".repeat(18));
        CHECK.due("a full chain", Answers.witness(Graphs.of(10, 1, Graphs.FULL_CHAIN)), "0".repeat(18));
        CHECK.due("full triangles", Answers.witness(Graphs.of(10, 1, Graphs.FULL_TRIANGLES)), "0".repeat(18));
        PlanarSplit x = Graphs.five();
        CHECK.due("five", Answers.witness(x), "1".repeat(10));
        x.undo();
        CHECK.due("five without an edge", Answers.witness(x), "0".repeat(9));
        for (int wrong : Graphs.joined(NEVER, 9, 10)) {
            CHECK.due("witness(" + wrong + ")", x.witness(wrong), false);
        }
        x.begin(5);
        CHECK.due("witness(0) of a begun graph", x.witness(0), false);
    }

    // ---- promise 17: "5 when the witness has vertices with four edges, 3 when it has none; 0 when .. planar."

    private static void kindOfWhatIsPlanar() {
        CHECK.at("promise 17, planar");
        for (int n = 0; n <= 10; n++) {
            CHECK.due(n + " alone", Graphs.of(n, 1).kind(), 0);
        }
        CHECK.due("a full wheel", Graphs.of(10, 1, Graphs.FULL_WHEEL).kind(), 0);
        CHECK.due("a full chain", Graphs.of(10, 1, Graphs.FULL_CHAIN).kind(), 0);
        CHECK.due("full triangles", Graphs.of(10, 1, Graphs.FULL_TRIANGLES).kind(), 0);
        CHECK.due("eighteen with the same ends", Graphs.eighteen().kind(), 0);
        CHECK.due("four edges at each of two", Graphs.of(2, 1, 0, 1, 0, 1, 0, 1, 0, 1).kind(), 0);
        PlanarSplit x = Graphs.five();
        x.undo();
        CHECK.due("five without an edge", x.kind(), 0);
        x.begin(0);
        CHECK.due("no vertex", x.kind(), 0);
    }

    private static void kindOfWhatIsNotPlanar() {
        CHECK.at("promise 17, not planar");
        CHECK.due("five, of the first vertices", Graphs.of(10, 1, Graphs.FIVE).kind(), 5);
        CHECK.due("five, of the last vertices", Graphs.triangleAndFive().kind(), 5);
        CHECK.due("three and three", Graphs.threeAndThree().kind(), 3);
        CHECK.due("a full tangle", Graphs.of(10, GREATEST, Graphs.FULL_TANGLE).kind(), 3);
        CHECK.due("a full long five", Graphs.of(10, GREATEST, Graphs.FULL_LONG_FIVE).kind(), 5);
        // Vertices have four edges in the graph, but not in its witness.
        CHECK.due("three and three with each edge doubled", Graphs.of(6, 1,
                Graphs.joined(Graphs.THREE_AND_THREE, Graphs.THREE_AND_THREE)).kind(), 3);
        CHECK.due("three and three and a star", Graphs.of(10, 1,
                Graphs.joined(Graphs.THREE_AND_THREE, 0, 6, 0, 7, 0, 8, 0, 9)).kind(), 3);
        CHECK.due("three and three and four edges elsewhere", Graphs.of(10, 1,
                Graphs.joined(Graphs.THREE_AND_THREE, 8, 9, 8, 9, 8, 9, 8, 9)).kind(), 3);
    }
}
