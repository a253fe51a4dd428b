/** Each promise of the document: ordinary inputs, the edges that it names, and wrong inputs. */
public final class PromisesTest {
    private static final int NONE = PlanarSplit.NONE;
    private static final int[] WRONG = {-1, 18, 19, 31, 32, 33, 64, -32, Integer.MAX_VALUE, Integer.MIN_VALUE};

    private static final Check CHECK = new Check();

    public static void main(String[] args) {
        promise1NewObject();
        promise2Begin();
        promise3Add();
        promise4Undo();
        promise5Weigh();
        promise6Edges();
        promises7And8Components();
        promises9And10Blocks();
        promise11Planar();
        promise12Faces();
        promise13Cut();
        promise14Side();
        promise15Crosses();
        promise16Witness();
        promise17Kind();
        refusedCallsChangeNothing();
        answersFollowTheGraph();
        objectsAreApart();
        CHECK.end();
    }

    // ---- the promises

    private static void promise1NewObject() {
        CHECK.at("promise 1");
        PlanarSplit x = new PlanarSplit();
        CHECK.due("edges()", x.edges(), 0);
        CHECK.due("components()", x.components(), 0);
        CHECK.due("blocks()", x.blocks(), 0);
        CHECK.due("planar()", x.planar(), true);
        CHECK.due("faces()", x.faces(), 0);
        CHECK.due("cut()", x.cut(), 0);
        CHECK.due("kind()", x.kind(), 0);
        CHECK.due("side(0)", x.side(0), NONE);
        CHECK.due("component(0)", x.component(0), NONE);
        CHECK.due("block(0)", x.block(0), NONE);
        CHECK.due("crosses(0)", x.crosses(0), false);
        CHECK.due("witness(0)", x.witness(0), false);
        CHECK.due("undo()", x.undo(), NONE);
        CHECK.due("weigh(0, 1)", x.weigh(0, 1), false);
        CHECK.due("add(0, 1, 1)", x.add(0, 1, 1), NONE);
    }

    private static void promise2Begin() {
        CHECK.at("promise 2");
        PlanarSplit x = new PlanarSplit();
        for (int n = 0; n <= 10; n++) {
            CHECK.due("begin(" + n + ")", x.begin(n), true);
            CHECK.due("edges()", x.edges(), 0);
            CHECK.due("components()", x.components(), n);
            CHECK.due("component(" + n + ")", x.component(n), NONE);
            CHECK.due("component(" + (n - 1) + ")", x.component(n - 1), n - 1);
            x.add(0, 1, 1);
        }
        CHECK.due("begin(10) again", x.begin(10), true);
        CHECK.due("edges() of a begun graph", x.edges(), 0);
        CHECK.due("begin(0)", x.begin(0), true);
        CHECK.due("components()", x.components(), 0);
        for (int n : new int[] {-1, 11, 12, 32, Integer.MAX_VALUE, Integer.MIN_VALUE}) {
            CHECK.due("begin(" + n + ")", x.begin(n), false);
        }
    }

    private static void promise3Add() {
        CHECK.at("promise 3");
        PlanarSplit x = Graphs.of(4, 1);
        CHECK.due("add(0, 1, 0)", x.add(0, 1, 0), 0);
        CHECK.due("add(1, 0, greatest)", x.add(1, 0, Graphs.HEAVIEST), 1);
        CHECK.due("add(3, 2, 5)", x.add(3, 2, 5), 2);
        CHECK.due("add(4, 0, 1)", x.add(4, 0, 1), NONE);
        CHECK.due("add(0, 4, 1)", x.add(0, 4, 1), NONE);
        CHECK.due("add(-1, 0, 1)", x.add(-1, 0, 1), NONE);
        CHECK.due("add(0, -1, 1)", x.add(0, -1, 1), NONE);
        CHECK.due("add(2, 2, 1)", x.add(2, 2, 1), NONE);
        CHECK.due("add(0, 1, -1)", x.add(0, 1, -1), NONE);
        CHECK.due("add(0, 1, least)", x.add(0, 1, Integer.MIN_VALUE), NONE);
        CHECK.due("add(greatest, 0, 1)", x.add(Integer.MAX_VALUE, 0, 1), NONE);
        CHECK.due("add(0, least, 1)", x.add(0, Integer.MIN_VALUE, 1), NONE);
        for (int e = 3; e < 18; e++) {
            CHECK.due("add(0, 1, 1)", x.add(0, 1, 1), e);
        }
        CHECK.due("add beyond 18", x.add(0, 1, 1), NONE);
        CHECK.due("edges()", x.edges(), 18);
        CHECK.due("components()", x.components(), 2);
        CHECK.due("cut()", x.cut(), Graphs.HEAVIEST + 20L);
    }

    private static void promise4Undo() {
        CHECK.at("promise 4");
        PlanarSplit x = Graphs.of(3, 4, 0, 1, 1, 2, 2, 0);
        CHECK.due("undo()", x.undo(), 2);
        CHECK.due("cut()", x.cut(), 8);
        CHECK.due("crosses(2)", x.crosses(2), false);
        CHECK.due("blocks()", x.blocks(), 2);
        CHECK.due("add(0, 2, 9)", x.add(0, 2, 9), 2);
        CHECK.due("cut()", x.cut(), 13);
        CHECK.due("undo()", x.undo(), 2);
        CHECK.due("undo()", x.undo(), 1);
        CHECK.due("undo()", x.undo(), 0);
        CHECK.due("undo()", x.undo(), NONE);
        CHECK.due("components()", x.components(), 3);
        PlanarSplit full = new PlanarSplit();
        full.begin(2);
        for (int e = 0; e < 18; e++) {
            full.add(0, 1, e);
        }
        CHECK.due("undo() of 18", full.undo(), 17);
        CHECK.due("add after it", full.add(0, 1, 1), 17);
    }

    private static void promise5Weigh() {
        CHECK.at("promise 5");
        PlanarSplit x = Graphs.of(3, 5, 0, 1, 1, 2, 2, 0);
        CHECK.due("cut()", x.cut(), 10);
        CHECK.due("weigh(1, 6)", x.weigh(1, 6), true);
        CHECK.due("cut()", x.cut(), 11);
        CHECK.due("weigh(2, greatest)", x.weigh(2, Graphs.HEAVIEST), true);
        CHECK.due("cut()", x.cut(), Graphs.HEAVIEST + 6L);
        CHECK.due("weigh(2, 0)", x.weigh(2, 0), true);
        CHECK.due("cut()", x.cut(), 11);
        CHECK.due("weigh(3, 1)", x.weigh(3, 1), false);
        CHECK.due("weigh(0, -1)", x.weigh(0, -1), false);
        CHECK.due("weigh(0, least)", x.weigh(0, Integer.MIN_VALUE), false);
        for (int e : WRONG) {
            CHECK.due("weigh(" + e + ", 1)", x.weigh(e, 1), false);
        }
        CHECK.due("cut()", x.cut(), 11);
        x.undo();
        CHECK.due("weigh of an edge taken away", x.weigh(2, 1), false);
    }

    private static void promise6Edges() {
        CHECK.at("promise 6");
        PlanarSplit x = Graphs.of(2, 1);
        for (int e = 0; e < 18; e++) {
            CHECK.due("edges()", x.edges(), e);
            x.add(e % 2, 1 - e % 2, e);
        }
        CHECK.due("edges()", x.edges(), 18);
        x.undo();
        CHECK.due("edges()", x.edges(), 17);
    }

    private static void promises7And8Components() {
        CHECK.at("promises 7 and 8");
        PlanarSplit x = Graphs.of(10, 1, 9, 3, 5, 1, 3, 6, 8, 5);
        CHECK.due("components()", x.components(), 6);
        CHECK.due("components", Answers.components(x, 10), "0123413513");
        x.add(9, 8, 0);
        CHECK.due("components()", x.components(), 5);
        CHECK.due("components", Answers.components(x, 10), "0121311411");
        x.add(6, 1, 0);
        CHECK.due("components() with a circle more", x.components(), 5);
        x.add(7, 0, 0);
        CHECK.due("components()", x.components(), 4);
        CHECK.due("components", Answers.components(x, 10), "0121311011");
        CHECK.due("component(10)", x.component(10), NONE);
        for (int v : WRONG) {
            CHECK.due("component(" + v + ")", x.component(v), NONE);
        }
        CHECK.due("component(2) as the first question", Graphs.of(3, 1, 0, 1).component(2), 1);
        CHECK.due("components() of five", Graphs.five().components(), 1);
        CHECK.due("components of five", Answers.components(Graphs.five(), 5), "00000");
    }

    private static void promises9And10Blocks() {
        CHECK.at("promises 9 and 10");
        // A bridge between two triangles, and a third that shares a vertex with the second.
        PlanarSplit x = Graphs.of(8, 1, 2, 3, 3, 4, 0, 1, 1, 2, 4, 5, 2, 0, 5, 3, 5, 6, 6, 7, 7, 5);
        CHECK.due("blocks()", x.blocks(), 4);
        CHECK.due("blocks", Answers.blocks(x), "0 1 2 2 1 2 1 3 3 3");
        x.add(7, 4, 1);
        CHECK.due("blocks()", x.blocks(), 3);
        CHECK.due("blocks", Answers.blocks(x), "0 1 2 2 1 2 1 1 1 1 1");
        x.add(3, 2, 1);
        CHECK.due("blocks() with the bridge doubled", x.blocks(), 3);
        CHECK.due("blocks", Answers.blocks(x), "0 1 2 2 1 2 1 1 1 1 1 0");
        x.add(7, 0, 1);
        CHECK.due("blocks() all in one", x.blocks(), 1);
        CHECK.due("blocks", Answers.blocks(x), "0 0 0 0 0 0 0 0 0 0 0 0 0");
        CHECK.due("block(13)", x.block(13), NONE);
        for (int e : WRONG) {
            CHECK.due("block(" + e + ")", x.block(e), NONE);
        }
        PlanarSplit trees = Graphs.of(10, 1, 0, 1, 0, 2, 0, 3, 3, 4, 4, 5, 5, 6, 7, 8);
        CHECK.due("blocks() of trees", trees.blocks(), 7);
        CHECK.due("blocks of trees", Answers.blocks(trees), "0 1 2 3 4 5 6");
        CHECK.due("blocks of edges with the same ends",
                Answers.blocks(Graphs.of(3, 1, 0, 1, 1, 2, 1, 0, 0, 1)), "0 1 0 0");
        CHECK.due("block(1) as the first question", Graphs.of(3, 1, 0, 1, 1, 2).block(1), 1);
        CHECK.due("blocks() of five", Graphs.five().blocks(), 1);
        CHECK.due("blocks() without edges", Graphs.of(10, 1).blocks(), 0);
    }

    private static void promise11Planar() {
        CHECK.at("promise 11");
        CHECK.due("five", Graphs.five().planar(), false);
        CHECK.due("three and three", Graphs.threeAndThree().planar(), false);
        CHECK.due("Petersen's", Graphs.petersen().planar(), false);
        CHECK.due("a cube", Graphs.cube().planar(), true);
        CHECK.due("an octahedron", Graphs.of(6, 1, 0, 1, 0, 2, 0, 3, 0, 4, 5, 1, 5, 2, 5, 3, 5, 4,
                1, 2, 2, 3, 3, 4, 4, 1).planar(), true);
        CHECK.due("a prism of five", Graphs.of(10, 1, 0, 1, 1, 2, 2, 3, 3, 4, 4, 0, 5, 6, 6, 7, 7, 8, 8, 9,
                9, 5, 0, 5, 1, 6, 2, 7, 3, 8, 4, 9).planar(), true);
        CHECK.due("a twisted ladder", Graphs.of(8, 1, 0, 1, 1, 2, 2, 3, 3, 4, 4, 5, 5, 6, 6, 7, 7, 0,
                0, 4, 1, 5, 2, 6, 3, 7).planar(), false);
        CHECK.due("a wheel of nine", Graphs.of(10, 1, 0, 1, 0, 2, 0, 3, 0, 4, 0, 5, 0, 6, 0, 7, 0, 8, 0, 9,
                1, 2, 2, 3, 3, 4, 4, 5, 5, 6, 6, 7, 7, 8, 8, 9, 9, 1).planar(), true);
        CHECK.due("eighteen edges with the same ends", Graphs.eighteen().planar(), true);
        CHECK.due("no vertex", Graphs.of(0, 1).planar(), true);
        CHECK.due("ten vertices alone", Graphs.of(10, 1).planar(), true);
        CHECK.due("five in a later component", Graphs.triangleAndFive().planar(), false);
        CHECK.due("three and three with edges doubled", Graphs.of(6, 1, 0, 3, 0, 3, 0, 4, 0, 5, 1, 3, 1, 4, 1, 4,
                1, 5, 2, 3, 2, 4, 2, 5, 5, 2).planar(), false);
        everyEdgeIsNeeded("five", 5, Graphs.FIVE);
        everyEdgeIsNeeded("three and three", 6, Graphs.THREE_AND_THREE);
    }

    private static void everyEdgeIsNeeded(String name, int n, int[] ends) {
        for (int i = 0; i < ends.length; i += 2) {
            PlanarSplit x = Graphs.of(n, 1);
            for (int j = 0; j < ends.length; j += 2) {
                if (j != i) {
                    x.add(ends[j], ends[j + 1], 1);
                }
            }
            CHECK.due(name + " without edge " + i / 2, x.planar(), true);
            x.add(ends[i + 1], ends[i], 1);
            CHECK.due(name + " with edge " + i / 2 + " again", x.planar(), false);
        }
    }

    private static void promise12Faces() {
        CHECK.at("promise 12");
        CHECK.due("no vertex", Graphs.of(0, 1).faces(), 0);
        CHECK.due("ten alone", Graphs.of(10, 1).faces(), 10);
        CHECK.due("a tree", Graphs.of(4, 1, 0, 1, 0, 2, 0, 3).faces(), 1);
        CHECK.due("a triangle and two alone", Graphs.of(5, 1, 0, 1, 1, 2, 2, 0).faces(), 4);
        CHECK.due("eighteen edges with the same ends", Graphs.eighteen().faces(), 18);
        CHECK.due("a cube", Graphs.cube().faces(), 6);
        CHECK.due("five", Graphs.five().faces(), 0);
        CHECK.due("three and three", Graphs.threeAndThree().faces(), 0);
        PlanarSplit x = Graphs.triangleAndFive();
        CHECK.due("five, a triangle and two alone", x.faces(), 4);
        x.add(0, 5, 1);
        CHECK.due("five with a triangle hung on, and two alone", x.faces(), 2);
        x.add(3, 4, 1);
        CHECK.due("five with a triangle hung on, and two joined", x.faces(), 1);
        x.add(4, 0, 1);
        CHECK.due("five with all hung on", x.faces(), 0);
    }

    private static void promise13Cut() {
        CHECK.at("promise 13");
        CHECK.due("no vertex", Graphs.of(0, 1).cut(), 0);
        CHECK.due("no edge", Graphs.of(10, 1).cut(), 0);
        CHECK.due("a triangle", Graphs.of(3, 7, 0, 1, 1, 2, 2, 0).cut(), 14);
        CHECK.due("a square", Graphs.of(4, 7, 0, 1, 1, 2, 2, 3, 3, 0).cut(), 28);
        CHECK.due("edges without weight", Graphs.of(4, 0, 0, 1, 1, 2, 2, 3, 3, 0).cut(), 0);
        CHECK.due("a wheel of five", Graphs.wheel().cut(), 14);
        CHECK.due("five", Graphs.five().cut(), NONE);
        CHECK.due("three and three", Graphs.threeAndThree().cut(), NONE);
        PlanarSplit heavy = Graphs.eighteen();
        for (int e = 0; e < 18; e++) {
            heavy.weigh(e, Graphs.HEAVIEST);
        }
        CHECK.due("eighteen of the heaviest", heavy.cut(), 18L * Graphs.HEAVIEST);
        PlanarSplit x = Graphs.five();
        x.undo();
        CHECK.due("five without an edge", x.cut(), 6);
    }

    private static void promise14Side() {
        CHECK.at("promise 14");
        CHECK.due("sides of vertices alone", Answers.sides(Graphs.of(10, 1), 10), "0000000000");
        CHECK.due("sides of a triangle", Answers.sides(Graphs.of(3, 5, 0, 1, 1, 2, 2, 0), 3), "010");
        CHECK.due("sides of a wheel of five", Answers.sides(Graphs.wheel(), 6), "011010");
        CHECK.due("sides of the heaviest", Answers.sides(Graphs.of(4, Graphs.HEAVIEST, 3, 2, 2, 1, 1, 0), 4), "0101");
        PlanarSplit x = Graphs.of(6, 0, 3, 0, 5, 2, 2, 1);
        CHECK.due("sides of three components", Answers.sides(x, 6), "001100");
        CHECK.due("side(6)", x.side(6), NONE);
        for (int v : WRONG) {
            CHECK.due("side(" + v + ")", x.side(v), NONE);
        }
        PlanarSplit five = Graphs.five();
        CHECK.due("sides of five", Answers.sides(five, 6), "-1-1-1-1-1-1");
        five.undo();
        CHECK.due("sides of five without an edge", Answers.sides(five, 5), "01100");
    }

    private static void promise15Crosses() {
        CHECK.at("promise 15");
        CHECK.due("a triangle", Answers.crossing(Graphs.of(3, 5, 0, 1, 1, 2, 2, 0)), "110");
        CHECK.due("a triangle of the heaviest",
                Answers.crossing(Graphs.of(3, Graphs.HEAVIEST, 0, 1, 1, 2, 2, 0)), "110");
        CHECK.due("four without weight",
                Answers.crossing(Graphs.of(4, 0, 0, 1, 0, 2, 0, 3, 1, 2, 1, 3, 2, 3)), "111000");
        CHECK.due("four", Answers.crossing(Graphs.of(4, 1, 0, 1, 0, 2, 0, 3, 1, 2, 1, 3, 2, 3)), "110011");
        CHECK.due("a wheel of five", Answers.crossing(Graphs.wheel()), "1101001111");
        CHECK.due("the first edge before many",
                Answers.crossing(Graphs.of(3, 0, 0, 1, 1, 2, 1, 2, 0, 2, 0, 2, 0, 2)), "111000");
        PlanarSplit x = Graphs.of(3, 1, 0, 1, 1, 2, 2, 0);
        x.weigh(2, 2);
        CHECK.due("a triangle with a heavy last edge", Answers.crossing(x), "101");
        x.weigh(1, 2);
        CHECK.due("a triangle with a light first edge", Answers.crossing(x), "011");
        CHECK.due("crosses(3)", x.crosses(3), false);
        for (int e : WRONG) {
            CHECK.due("crosses(" + e + ")", x.crosses(e), false);
        }
        PlanarSplit five = Graphs.five();
        CHECK.due("five", Answers.crossing(five), "0000000000");
        five.undo();
        CHECK.due("five without an edge", Answers.crossing(five), "110001111");
        CHECK.due("crosses(9) when taken away", five.crosses(9), false);
    }

    private static void promise16Witness() {
        CHECK.at("promise 16");
        CHECK.due("five", Answers.witness(Graphs.five()), "1111111111");
        CHECK.due("three and three", Answers.witness(Graphs.threeAndThree()), "111111111");
        PlanarSplit doubled = Graphs.five();
        doubled.add(1, 0, 0);
        CHECK.due("five with its first edge doubled", Answers.witness(doubled), "01111111111");
        CHECK.due("five beside others", Answers.witness(Graphs.triangleAndFive()), "1111111111000");
        CHECK.due("six", Answers.witness(Graphs.of(6, 1, 0, 1, 0, 2, 0, 3, 0, 4, 0, 5, 1, 2, 1, 3, 1, 4, 1, 5,
                2, 3, 2, 4, 2, 5, 3, 4, 3, 5, 4, 5)), "000001111111111");
        PlanarSplit wide = Graphs.of(7, 1, 0, 3, 0, 4, 0, 5, 0, 6, 1, 3, 1, 4, 1, 5, 1, 6, 2, 3, 2, 4, 2, 5, 2, 6);
        CHECK.due("three and four", Answers.witness(wide), "011101110111");
        CHECK.due("witness(12)", wide.witness(12), false);
        for (int e : WRONG) {
            CHECK.due("witness(" + e + ")", wide.witness(e), false);
        }
        CHECK.due("a cube", Answers.witness(Graphs.cube()), "000000000000");
        PlanarSplit less = Graphs.five();
        less.undo();
        CHECK.due("five without an edge", Answers.witness(less), "000000000");
    }

    private static void promise17Kind() {
        CHECK.at("promise 17");
        CHECK.due("five", Graphs.five().kind(), 5);
        CHECK.due("three and three", Graphs.threeAndThree().kind(), 3);
        CHECK.due("Petersen's", Graphs.petersen().kind(), 3);
        CHECK.due("five beside others", Graphs.triangleAndFive().kind(), 5);
        CHECK.due("five with a vertex on an edge", Graphs.of(6, 1, 0, 1, 0, 2, 0, 3, 0, 4, 1, 2, 1, 3, 1, 4,
                2, 3, 2, 4, 3, 5, 5, 4).kind(), 5);
        CHECK.due("five, two edges to and two from each", Graphs.of(5, 1, 0, 1, 1, 2, 2, 3, 3, 4, 4, 0,
                0, 2, 2, 4, 4, 1, 1, 3, 3, 0).kind(), 5);
        PlanarSplit five = Graphs.five();
        five.add(0, 1, 1);
        CHECK.due("five with an edge doubled", five.kind(), 5);
        // The graph has vertices with four edges, its witness has none.
        CHECK.due("three and three with an edge more", Graphs.of(6, 1, 0, 1, 0, 3, 0, 4, 0, 5, 1, 3, 1, 4, 1, 5,
                2, 3, 2, 4, 2, 5).kind(), 3);
        CHECK.due("a cube", Graphs.cube().kind(), 0);
        CHECK.due("a wheel", Graphs.wheel().kind(), 0);
        CHECK.due("ten alone", Graphs.of(10, 1).kind(), 0);
    }

    // ---- what holds for all of them

    private static void refusedCallsChangeNothing() {
        CHECK.at("refused calls");
        for (PlanarSplit x : new PlanarSplit[] {Graphs.five(), Graphs.petersen(), Graphs.wheel(),
                Graphs.cube(), Graphs.triangleAndFive(), Graphs.eighteen()}) {
            String before = Answers.all(x);
            x.begin(11);
            x.begin(-1);
            x.add(0, 0, 1);
            x.add(0, 10, 1);
            x.add(-1, 1, 1);
            x.add(0, 1, -1);
            x.weigh(0, -1);
            x.weigh(-1, 5);
            x.weigh(18, 5);
            CHECK.due("answers", Answers.all(x), before);
        }
        PlanarSplit full = Graphs.eighteen();
        String before = Answers.all(full);
        full.add(0, 1, 1000);
        CHECK.due("answers of a full graph", Answers.all(full), before);
        PlanarSplit empty = Graphs.of(3, 1);
        before = Answers.all(empty);
        empty.undo();
        CHECK.due("answers of a graph without edges", Answers.all(empty), before);
    }

    /** An answer given before must not stand in the way of one that is due after a change. */
    private static void answersFollowTheGraph() {
        CHECK.at("changes");
        PlanarSplit x = Graphs.five();
        String whole = Answers.all(x);
        x.undo();
        String less = Answers.all(x);
        CHECK.due("planar() after undo()", x.planar(), true);
        x.add(3, 4, 1);
        CHECK.due("answers with the edge again", Answers.all(x), whole);
        x.weigh(0, 9);
        CHECK.due("answers of five with other weights", Answers.all(x), whole);
        x.undo();
        CHECK.due("cut() with the weight told while not planar", x.cut(), 14);
        x.weigh(0, 1);
        CHECK.due("answers without it again", Answers.all(x), less);
        x = Graphs.five();
        Answers.all(x);
        x.begin(5);
        CHECK.due("answers of a begun graph", Answers.all(x), Answers.all(Graphs.of(5, 1)));
        x.begin(2);
        CHECK.due("answers of fewer vertices", Answers.all(x), Answers.all(Graphs.of(2, 1)));
    }

    private static void objectsAreApart() {
        CHECK.at("two objects");
        PlanarSplit x = new PlanarSplit();
        PlanarSplit y = new PlanarSplit();
        x.begin(3);
        y.begin(5);
        x.add(0, 1, 4);
        y.add(3, 4, 6);
        y.add(2, 3, 6);
        CHECK.due("x.edges()", x.edges(), 1);
        CHECK.due("y.edges()", y.edges(), 2);
        CHECK.due("x.cut()", x.cut(), 4);
        CHECK.due("y.cut()", y.cut(), 12);
        CHECK.due("x.components()", x.components(), 2);
        CHECK.due("y.components()", y.components(), 3);
    }
}
