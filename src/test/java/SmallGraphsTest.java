/**
 * All small graphs there are. How many of them are connected, are one block, are planar and are planar with every
 * edge crossing is known, and every row of a few edges is due to be answered as the model has it.
 */
public final class SmallGraphsTest {
    // How many graphs on 0 .. 6 vertices, without two edges with the same ends, are such.
    private static final int[] CONNECTED = {0, 1, 1, 4, 38, 728, 26704};
    private static final int[] ONE_BLOCK = {0, 0, 1, 1, 10, 238, 11368};
    private static final int[] PLANAR = {1, 1, 2, 8, 64, 1023, 32071};
    /** All edges can cross when no circle is odd; on six vertices ten such graphs, three and three, are not planar. */
    private static final int[] ALL_CROSS = {1, 1, 2, 7, 41, 376, 5177 - 10};

    private static final Check CHECK = new Check();

    public static void main(String[] args) {
        for (int n = 0; n <= 6; n++) {
            countGraphs(n);
        }
        everyRow("edges either way", 4, 12, 4, 1);
        everyRow("weights 0 to 2", 3, 3, 4, 0, 1, 2);
        everyRow("weights 0 and 1", 4, 6, 4, 0, 1);
        everyRow("no weights", 4, 6, 4, 0);
        everyRow("one weight", 4, 6, 5, 1);
        everyRow("one weight", 5, 10, 4, 1);
        CHECK.end();
    }

    // ---- counts

    private static void countGraphs(int n) {
        int pairs = n * (n - 1) / 2;
        int connected = 0;
        int oneBlock = 0;
        int planar = 0;
        int allCross = 0;
        for (int chosen = 0; chosen < 1 << pairs; chosen++) {
            PlanarSplit x = Graphs.of(n, 1);
            for (int pair = 0; pair < pairs; pair++) {
                if ((chosen >> pair & 1) != 0) {
                    x.add(greater(pair), lesser(pair), 1);
                }
            }
            connected += x.components() == 1 ? 1 : 0;
            oneBlock += x.components() == 1 && x.blocks() == 1 ? 1 : 0;
            planar += x.planar() ? 1 : 0;
            allCross += x.cut() == x.edges() ? 1 : 0;
        }
        CHECK.at("all graphs on " + n + " vertices");
        CHECK.due("how many are connected", connected, CONNECTED[n]);
        CHECK.due("how many are one block", oneBlock, ONE_BLOCK[n]);
        CHECK.due("how many are planar", planar, PLANAR[n]);
        CHECK.due("how many are planar and all their edges cross", allCross, ALL_CROSS[n]);
    }

    // Pairs are numbered 1 0, 2 0, 2 1, 3 0, 3 1, 3 2 and so on.

    private static int greater(int pair) {
        int v = 1;
        while (v * (v + 1) / 2 <= pair) {
            v++;
        }
        return v;
    }

    private static int lesser(int pair) {
        int v = greater(pair);
        return pair - v * (v - 1) / 2;
    }

    // ---- rows of edges

    /** Up to so many edges, each any of the ways from a vertex to another, with any of the weights. */
    private static void everyRow(String name, int n, int ways, int most, int... weights) {
        CHECK.at("every row on " + n + " vertices, " + name);
        Model model = new Model();
        model.begin(n);
        addInEveryWay(model, ways, most, weights);
    }

    private static void addInEveryWay(Model model, int ways, int most, int[] weights) {
        compare(model);
        int pairs = model.vertexCount * (model.vertexCount - 1) / 2;
        for (int way = 0; way < ways && most > 0; way++) {
            int greater = greater(way % pairs);
            int lesser = lesser(way % pairs);
            boolean isUpward = way >= pairs;
            for (int weight : weights) {
                model.add(isUpward ? lesser : greater, isUpward ? greater : lesser, weight);
                addInEveryWay(model, ways, most - 1, weights);
                model.undo();
            }
        }
    }

    private static void compare(Model model) {
        PlanarSplit x = new PlanarSplit();
        x.begin(model.vertexCount);
        StringBuilder told = new StringBuilder();
        for (int[] edge : model.edges) {
            x.add(edge[0], edge[1], edge[2]);
            told.append(edge[0]).append(' ').append(edge[1]).append(' ').append(edge[2]).append(", ");
        }
        int[] component = model.componentNumbers();
        int[] block = model.blockNumbers();
        int[] side = model.sides();
        for (int v = 0; v < component.length; v++) {
            CHECK.due(told + "component(" + v + ")", x.component(v), component[v]);
            CHECK.due(told + "side(" + v + ")", x.side(v), side[v]);
        }
        for (int e = 0; e < block.length; e++) {
            CHECK.due(told + "block(" + e + ")", x.block(e), block[e]);
        }
        CHECK.due(told + "faces()", x.faces(), model.faces());
        CHECK.due(told + "cut()", x.cut(), model.weightOf(side));
    }
}
