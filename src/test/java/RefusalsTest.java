import java.util.ArrayList;
import java.util.List;
import java.util.function.ToLongFunction;

/**
 * "A call that is refused (NONE, false) changes nothing": behind each refused call the other calls
 * answer what they answered before it, and what a twin answers that was never given the call.
 * Edges are then taken away one after the other, as some of what is kept is not seen before that.
 */
public final class RefusalsTest {
    private static final int NONE = PlanarSplit.NONE;
    private static final int LEAST = Integer.MIN_VALUE;
    private static final int GREATEST = Integer.MAX_VALUE;

    private static final Check CHECK = new Check();

    private record Sample(String name, int n, int[] ends) {
        int edges() {
            return ends.length / 2;
        }

        /** Weights go down from the greatest, so that no two edges have the same. */
        PlanarSplit make() {
            PlanarSplit x = Graphs.of(n, 0, ends);
            for (int e = 0; e < edges(); e++) {
                x.weigh(e, GREATEST - e);
            }
            return x;
        }
    }

    private record Refusal(String name, long due, ToLongFunction<PlanarSplit> call) {
    }

    public static void main(String[] args) {
        refusalsOfANewObject();
        for (Sample sample : samples()) {
            for (Refusal refusal : refusals(sample)) {
                CHECK.at(sample.name + ", behind " + refusal.name);
                answersStay(sample, refusal);
                nothingKeptIsChanged(sample, refusal);
                nextEdgeIsAdded(sample, refusal);
            }
            CHECK.at(sample.name + ", behind all refused calls");
            allRefusalsInARow(sample);
        }
        CHECK.end();
    }

    private static List<Sample> samples() {
        return List.of(
                new Sample("no vertex", 0, new int[] {}),
                new Sample("one vertex", 1, new int[] {}),
                new Sample("ten alone", 10, new int[] {}),
                new Sample("one edge", 2, new int[] {0, 1}),
                new Sample("a triangle and one alone", 4, new int[] {0, 1, 1, 2, 2, 0}),
                new Sample("five", 5, Graphs.FIVE),
                new Sample("three and three", 6, Graphs.THREE_AND_THREE),
                new Sample("a cube", 8, Graphs.CUBE),
                new Sample("five beside a triangle", 10, Graphs.TRIANGLE_AND_FIVE),
                new Sample("eighteen with the same ends", 2, Graphs.eighteenBetween(0, 1)),
                new Sample("full triangles", 8, Graphs.FULL_TRIANGLES),
                new Sample("a full wheel", 10, Graphs.FULL_WHEEL),
                new Sample("a full chain", 10, Graphs.FULL_CHAIN),
                new Sample("a full tangle", 10, Graphs.FULL_TANGLE),
                new Sample("a full long five", 10, Graphs.FULL_LONG_FIVE));
    }

    // ---- which calls are refused

    private static List<Refusal> refusals(Sample sample) {
        List<Refusal> all = new ArrayList<>();
        refusedBegins(all);
        refusedEnds(all, sample.n);
        refusedWeights(all, sample);
        refusedEdges(all, sample.edges());
        refusedVertices(all, sample.n);
        if (sample.edges() == 0) {
            all.add(new Refusal("undo()", NONE, PlanarSplit::undo));
        }
        if (sample.edges() == 18) {
            all.add(new Refusal("the 19th edge", NONE, x -> x.add(0, 1, GREATEST)));
            all.add(new Refusal("the 19th edge, of no weight", NONE, x -> x.add(1, 0, 0)));
        }
        if (sample.make().planar()) {
            refusedWhilePlanar(all, sample.edges());
        } else {
            refusedWhileNotPlanar(all, sample);
        }
        return all;
    }

    private static void refusedBegins(List<Refusal> all) {
        for (int n : new int[] {-1, 11, LEAST, GREATEST}) {
            all.add(new Refusal("begin(" + n + ")", 0, x -> x.begin(n) ? 1 : 0));
        }
    }

    private static void refusedEnds(List<Refusal> all, int n) {
        for (int wrong : new int[] {-1, n, 10, LEAST, GREATEST}) {
            all.add(new Refusal("add(" + wrong + ", 0, 1)", NONE, x -> x.add(wrong, 0, 1)));
            all.add(new Refusal("add(0, " + wrong + ", 1)", NONE, x -> x.add(0, wrong, 1)));
            all.add(new Refusal("add(" + wrong + ", " + wrong + ", 1)", NONE, x -> x.add(wrong, wrong, 1)));
        }
        for (int v = 0; v < n; v++) {
            int same = v;
            all.add(new Refusal("add(" + v + ", " + v + ", 1)", NONE, x -> x.add(same, same, 1)));
        }
    }

    private static void refusedWeights(List<Refusal> all, Sample sample) {
        int last = sample.edges() - 1;
        for (int weight : new int[] {-1, LEAST}) {
            all.add(new Refusal("add(0, 1, " + weight + ")", NONE, x -> x.add(0, 1, weight)));
            all.add(new Refusal("add(" + (sample.n - 1) + ", 0, " + weight + ")", NONE,
                    x -> x.add(sample.n - 1, 0, weight)));
            all.add(new Refusal("weigh(0, " + weight + ")", 0, x -> x.weigh(0, weight) ? 1 : 0));
            all.add(new Refusal("weigh(" + last + ", " + weight + ")", 0, x -> x.weigh(last, weight) ? 1 : 0));
        }
    }

    private static void refusedEdges(List<Refusal> all, int m) {
        for (int wrong : new int[] {-1, m, 18, 32, LEAST, GREATEST}) {
            all.add(new Refusal("weigh(" + wrong + ", 0)", 0, x -> x.weigh(wrong, 0) ? 1 : 0));
            all.add(new Refusal("weigh(" + wrong + ", greatest)", 0, x -> x.weigh(wrong, GREATEST) ? 1 : 0));
            all.add(new Refusal("block(" + wrong + ")", NONE, x -> x.block(wrong)));
            all.add(new Refusal("crosses(" + wrong + ")", 0, x -> x.crosses(wrong) ? 1 : 0));
            all.add(new Refusal("witness(" + wrong + ")", 0, x -> x.witness(wrong) ? 1 : 0));
        }
    }

    private static void refusedVertices(List<Refusal> all, int n) {
        for (int wrong : new int[] {-1, n, 10, 32, LEAST, GREATEST}) {
            all.add(new Refusal("component(" + wrong + ")", NONE, x -> x.component(wrong)));
            all.add(new Refusal("side(" + wrong + ")", NONE, x -> x.side(wrong)));
        }
    }

    private static void refusedWhilePlanar(List<Refusal> all, int m) {
        all.add(new Refusal("kind()", 0, PlanarSplit::kind));
        for (int e = 0; e < m; e++) {
            int edge = e;
            all.add(new Refusal("witness(" + e + ")", 0, x -> x.witness(edge) ? 1 : 0));
        }
    }

    private static void refusedWhileNotPlanar(List<Refusal> all, Sample sample) {
        all.add(new Refusal("cut()", NONE, PlanarSplit::cut));
        for (int v = 0; v < sample.n; v++) {
            int vertex = v;
            all.add(new Refusal("side(" + v + ")", NONE, x -> x.side(vertex)));
        }
        for (int e = 0; e < sample.edges(); e++) {
            int edge = e;
            all.add(new Refusal("crosses(" + e + ")", 0, x -> x.crosses(edge) ? 1 : 0));
        }
    }

    // ---- what holds behind them

    private static void refusalsOfANewObject() {
        Sample empty = new Sample("a new object", 0, new int[] {});
        for (Refusal refusal : refusals(empty)) {
            CHECK.at("a new object, behind " + refusal.name);
            PlanarSplit x = new PlanarSplit();
            CHECK.due(refusal.name, refusal.call.applyAsLong(x), refusal.due);
            CHECK.due("all answers", Answers.all(x), Answers.all(new PlanarSplit()));
        }
    }

    private static void answersStay(Sample sample, Refusal refusal) {
        PlanarSplit x = sample.make();
        String before = Answers.all(x);
        CHECK.due(refusal.name, refusal.call.applyAsLong(x), refusal.due);
        CHECK.due("all answers", Answers.all(x), before);
    }

    private static void nothingKeptIsChanged(Sample sample, Refusal refusal) {
        for (int taken = 0; taken <= sample.edges(); taken++) {
            PlanarSplit x = sample.make();
            CHECK.due(refusal.name, refusal.call.applyAsLong(x), refusal.due);
            PlanarSplit twin = sample.make();
            for (int times = 0; times < taken; times++) {
                CHECK.due("undo()", x.undo(), twin.undo());
            }
            CHECK.due("all answers with " + taken + " edges taken away", Answers.all(x), Answers.all(twin));
        }
    }

    private static void nextEdgeIsAdded(Sample sample, Refusal refusal) {
        if (sample.n >= 2 && sample.edges() < 18) {
            PlanarSplit x = sample.make();
            refusal.call.applyAsLong(x);
            CHECK.due("the next edge", x.add(1, 0, 7), sample.edges());
            PlanarSplit twin = sample.make();
            twin.add(1, 0, 7);
            CHECK.due("all answers with the next edge", Answers.all(x), Answers.all(twin));
        }
    }

    private static void allRefusalsInARow(Sample sample) {
        PlanarSplit x = sample.make();
        for (Refusal refusal : refusals(sample)) {
            CHECK.due(refusal.name, refusal.call.applyAsLong(x), refusal.due);
        }
        CHECK.due("all answers", Answers.all(x), Answers.all(sample.make()));
    }
}
