/**
 * "A part is PLANAR when it can be drawn in the plane", with what the brackets behind it say of rounds and faces:
 * graphs that have been drawn are planar and have as many faces as are walked in the drawing, and small graphs
 * are planar when some rounds of their edges fulfil Euler's formula, of all rounds that there are.
 */
public final class DrawingsTest {
    private static final int DRAWINGS = 4000;

    private static final Check CHECK = new Check();
    private static final Numbers NUMBERS = new Numbers(11);

    public static void main(String[] args) {
        for (int times = 0; times < DRAWINGS; times++) {
            drawnGraph(times);
        }
        roundsOfOneComponent();
        roundsOfSeveralComponents();
        bridgesAreWalkedTwiceByOneFace();
        CHECK.end();
    }

    private static void drawnGraph(int times) {
        CHECK.at("drawing " + times);
        int n = NUMBERS.below(4) == 0 ? NUMBERS.below(11) : 7 + NUMBERS.below(4);
        Drawn drawn = new Drawn(NUMBERS, n, NUMBERS.below(3) == 0 ? NUMBERS.below(19) : 18);
        PlanarSplit x = Graphs.of(n, 1, drawn.ends());
        CHECK.due("edges()", x.edges(), drawn.edges());
        CHECK.due("planar()", x.planar(), true);
        CHECK.due("faces()", x.faces(), Rounds.walks(drawn.rounds()));
        CHECK.due("faces() by Euler", x.faces(), 2 * x.components() - n + x.edges());
        CHECK.due("witness", Answers.witness(x), "0".repeat(drawn.edges()));
        CHECK.due("kind()", x.kind(), 0);
    }

    private static void roundsOfOneComponent() {
        allRounds("one vertex", 1);
        allRounds("one edge", 2, 0, 1);
        allRounds("two edges with the same ends", 2, 0, 1, 1, 0);
        allRounds("five edges with the same ends", 2, 0, 1, 1, 0, 0, 1, 1, 0, 0, 1);
        allRounds("a star", 5, 4, 0, 4, 1, 4, 2, 4, 3);
        allRounds("a triangle", 3, 0, 1, 1, 2, 2, 0);
        allRounds("a triangle doubled", 3, 0, 1, 1, 2, 2, 0, 1, 0, 2, 1, 0, 2);
        allRounds("two triangles with a vertex in common", 5, 0, 1, 1, 2, 2, 0, 2, 3, 3, 4, 4, 2);
        allRounds("two triangles and a bridge", 6, 0, 1, 1, 2, 2, 0, 3, 4, 4, 5, 5, 3, 5, 0);
        allRounds("four", 4, 0, 1, 0, 2, 0, 3, 1, 2, 1, 3, 2, 3);
        allRounds("five", 5, Graphs.FIVE);
        allRounds("five with an edge hung on", 6, Graphs.joined(Graphs.FIVE, 5, 0));
        allRounds("three and three", 6, Graphs.THREE_AND_THREE);
        allRounds("three and three with a triangle hung on", 8,
                Graphs.joined(Graphs.THREE_AND_THREE, 5, 6, 6, 7, 7, 5));
        for (int e = 0; e < 10; e++) {
            allRounds("five without edge " + e, 5, Graphs.without(Graphs.FIVE, e));
        }
        for (int e = 0; e < 9; e++) {
            allRounds("three and three without edge " + e, 6, Graphs.without(Graphs.THREE_AND_THREE, e));
        }
        allRounds("a cube", 8, Graphs.CUBE);
        allRounds("a cube with two edges changed", 8, 0, 1, 1, 2, 2, 3, 3, 0, 4, 5, 5, 6, 6, 7, 7, 4, 0, 5, 1, 4, 2, 6,
                3, 7);
        allRounds("an octahedron", 6, 0, 1, 0, 2, 0, 3, 0, 4, 5, 1, 5, 2, 5, 3, 5, 4, 1, 2, 2, 3, 3, 4, 4, 1);
        allRounds("a wheel of five", 6, Graphs.WHEEL_OF_FIVE);
        allRounds("Petersen's", 10, Graphs.PETERSEN);
        allRounds("Petersen's without an edge", 10, Graphs.without(Graphs.PETERSEN, 0));
    }

    /** No rounds give more faces than Euler's formula asks, so the most that they give are due when planar. */
    private static void allRounds(String name, int n, int... ends) {
        CHECK.at("all rounds of " + name);
        int most = Rounds.mostWalks(n, ends);
        boolean isPlanar = n - ends.length / 2 + most == 2;
        PlanarSplit x = Graphs.of(n, 1, ends);
        CHECK.due("components()", x.components(), 1);
        CHECK.due("planar()", x.planar(), isPlanar);
        CHECK.due("faces()", x.faces(), isPlanar ? most : 0);
        CHECK.due("kind() is 0", x.kind() == 0, isPlanar);
    }

    private static void roundsOfSeveralComponents() {
        CHECK.at("all rounds of several components");
        int[] ends = {0, 3, 3, 6, 6, 0, 1, 4, 4, 7, 7, 1, 1, 4, 2, 5};
        CHECK.due("faces() of two triangles, an edge and two alone", Graphs.of(10, 1, ends).faces(),
                Rounds.mostWalks(10, ends));
        int[] four = {6, 7, 6, 8, 6, 9, 7, 8, 7, 9, 8, 9};
        CHECK.due("faces() of three and three, and four", Graphs.of(10, 1,
                Graphs.joined(Graphs.THREE_AND_THREE, four)).faces(), Rounds.mostWalks(10, four) - 6);
        CHECK.due("faces() of five, and five in a ring", Graphs.of(10, 1,
                Graphs.joined(Graphs.FIVE, 5, 6, 6, 7, 7, 8, 8, 9, 9, 5)).faces(), 2);
    }

    /** "Every edge is walked once each way": where both ways are of one face, it is no bound between two. */
    private static void bridgesAreWalkedTwiceByOneFace() {
        CHECK.at("bridges");
        PlanarSplit x = Graphs.of(10, 1, 0, 1, 1, 2, 2, 0, 3, 4, 4, 5, 5, 3);
        CHECK.due("faces() of two triangles and four alone", x.faces(), 8);
        int[] tree = {2, 3, 5, 6, 6, 7, 7, 8, 7, 9};
        for (int i = 0; i < tree.length; i += 2) {
            x.add(tree[i], tree[i + 1], 1);
            CHECK.due("faces() with " + (i / 2 + 1) + " bridges", x.faces(), 7 - i / 2);
        }
        x.add(3, 2, 1);
        CHECK.due("faces() with a bridge doubled", x.faces(), 4);
    }
}
