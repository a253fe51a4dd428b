/** Long runs of calls, drawn by a fixed row of numbers, whose answers are due as the model has them. */
public final class ModelTest {
    private static final int RUNS = 500;
    private static final int CALLS = 512;

    private static final Numbers NUMBERS = new Numbers(20261115);

    private static int below(int bound) {
        return NUMBERS.below(bound);
    }

    public static void main(String[] args) {
        Check check = new Check();
        for (int run = 0; run < RUNS && check.isClean(); run++) {
            oneRun(check, run);
        }
        check.end();
    }

    private static void oneRun(Check check, int run) {
        PlanarSplit x = new PlanarSplit();
        Model model = new Model();
        int style = below(5);
        StringBuilder told = new StringBuilder();
        for (int calls = 0; calls < CALLS && check.isClean();) {
            check.at("run " + run + " call " + calls + told);
            calls += change(check, x, model, style, told);
            if (below(3) == 0 && calls < CALLS) {
                calls += askSome(check, x, model);
            }
            if (below(16) == 0 && calls + 90 < CALLS) {
                calls += askAll(check, x, model);
            }
        }
    }

    private static int change(Check check, PlanarSplit x, Model model, int style, StringBuilder told) {
        int what = below(40);
        if (model.vertexCount == 0 || what == 0 && below(3) == 0) {
            int n = below(8) == 0 ? below(14) - 2 : style == 0 ? 5 + below(3) : 6 + below(5);
            told.append(" begin(").append(n).append(")");
            check.due("begin(" + n + ")", x.begin(n), model.begin(n));
        } else if (what < 8 && (model.edges.size() > 12 || what < 2)) {
            told.append(" undo()");
            check.due("undo()", x.undo(), model.undo());
        } else if (what < 12) {
            int e = below(20) - 1;
            int weight = drawWeight(style);
            told.append(" weigh(").append(e).append(", ").append(weight).append(")");
            check.due("weigh(" + e + ", " + weight + ")", x.weigh(e, weight), model.weigh(e, weight));
        } else {
            int stray = below(20) == 0 ? 1 : 0;
            int u = below(model.vertexCount + 2 * stray) - stray;
            int v = below(model.vertexCount + 2 * stray) - stray;
            int weight = drawWeight(style);
            String call = "add(" + u + ", " + v + ", " + weight + ")";
            told.append(' ').append(call);
            check.due(call, x.add(u, v, weight), model.add(u, v, weight));
        }
        return 1;
    }

    private static int drawWeight(int style) {
        if (below(30) == 0) {
            return -1 - below(3);
        }
        if (style == 1) {
            return Integer.MAX_VALUE - below(2);
        }
        return below(style == 2 ? 1 : style == 3 ? 3 : 1000);
    }

    private static int askSome(Check check, PlanarSplit x, Model model) {
        int v = below(12) - 1;
        int e = below(20) - 1;
        switch (below(12)) {
            case 0 -> check.due("edges()", x.edges(), model.edges.size());
            case 1 -> check.due("components()", x.components(), count(model.componentNumbers()));
            case 2 -> check.due("component(" + v + ")", x.component(v),
                    model.hasVertex(v) ? model.componentNumbers()[v] : -1);
            case 3 -> check.due("blocks()", x.blocks(), count(model.blockNumbers()));
            case 4 -> check.due("block(" + e + ")", x.block(e),
                    model.hasEdge(e) ? model.blockNumbers()[e] : -1);
            case 5 -> check.due("planar()", x.planar(), model.planar());
            case 6 -> check.due("faces()", x.faces(), model.faces());
            case 7 -> check.due("cut()", x.cut(), model.planar() ? model.weightOf(model.sides()) : -1);
            case 8 -> check.due("side(" + v + ")", x.side(v),
                    model.hasVertex(v) && model.planar() ? model.sides()[v] : -1);
            case 9 -> check.due("crosses(" + e + ")", x.crosses(e), model.planar() && crosses(model, model.sides(), e));
            case 10 -> check.due("witness(" + e + ")", x.witness(e),
                    !model.planar() && model.hasEdge(e) && model.witness()[e]);
            default -> check.due("kind()", x.kind(), model.kind());
        }
        return 1;
    }

    private static int askAll(Check check, PlanarSplit x, Model model) {
        boolean planar = model.planar();
        int[] component = model.componentNumbers();
        int[] block = model.blockNumbers();
        int[] side = model.sides();
        boolean[] witness = model.witness();
        check.due("edges()", x.edges(), model.edges.size());
        check.due("components()", x.components(), count(component));
        check.due("blocks()", x.blocks(), count(block));
        check.due("planar()", x.planar(), planar);
        check.due("faces()", x.faces(), model.faces());
        check.due("cut()", x.cut(), planar ? model.weightOf(side) : -1);
        check.due("kind()", x.kind(), model.kind());
        for (int v = 0; v < model.vertexCount; v++) {
            check.due("component(" + v + ")", x.component(v), component[v]);
            check.due("side(" + v + ")", x.side(v), planar ? side[v] : -1);
        }
        for (int e = 0; e < model.edges.size(); e++) {
            check.due("block(" + e + ")", x.block(e), block[e]);
            check.due("crosses(" + e + ")", x.crosses(e), planar && crosses(model, side, e));
            check.due("witness(" + e + ")", x.witness(e), !planar && witness[e]);
        }
        return 7 + 2 * model.vertexCount + 3 * model.edges.size();
    }

    private static boolean crosses(Model model, int[] side, int e) {
        return model.hasEdge(e) && side[model.edges.get(e)[0]] != side[model.edges.get(e)[1]];
    }

    private static int count(int[] numbers) {
        int most = 0;
        for (int number : numbers) {
            most = Math.max(most, number + 1);
        }
        return most;
    }
}
