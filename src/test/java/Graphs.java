/** Graphs that several tests use. */
final class Graphs {
    static final int HEAVIEST = Integer.MAX_VALUE;

    /** Five vertices with an edge between any two of them. */
    static final int[] FIVE = {0, 1, 0, 2, 0, 3, 0, 4, 1, 2, 1, 3, 1, 4, 2, 3, 2, 4, 3, 4};
    static final int[] THREE_AND_THREE = {0, 3, 0, 4, 0, 5, 1, 3, 1, 4, 1, 5, 2, 3, 2, 4, 2, 5};
    static final int[] CUBE = {0, 1, 1, 2, 2, 3, 3, 0, 4, 5, 5, 6, 6, 7, 7, 4, 0, 4, 1, 5, 2, 6, 3, 7};
    static final int[] WHEEL_OF_FIVE = {0, 1, 0, 2, 0, 3, 0, 4, 0, 5, 1, 2, 2, 3, 3, 4, 4, 5, 5, 1};
    static final int[] PETERSEN = {0, 1, 1, 2, 2, 3, 3, 4, 4, 0, 0, 5, 1, 6, 2, 7, 3, 8, 4, 9,
            5, 7, 7, 9, 9, 6, 6, 8, 8, 5};
    /** Five of which each two have an edge, and a triangle of lesser vertices. */
    static final int[] TRIANGLE_AND_FIVE = {5, 6, 5, 7, 5, 8, 5, 9, 6, 7, 6, 8, 6, 9, 7, 8, 7, 9, 8, 9,
            0, 1, 1, 2, 2, 0};

    // Full graphs: all of them have eighteen edges, and those on ten vertices are full in both.
    /** On ten vertices, planar: the first has an edge to each other, and these are in a ring. */
    static final int[] FULL_WHEEL = {0, 1, 0, 2, 0, 3, 0, 4, 0, 5, 0, 6, 0, 7, 0, 8, 0, 9,
            1, 2, 2, 3, 3, 4, 4, 5, 5, 6, 6, 7, 7, 8, 8, 9, 9, 1};
    /** On ten vertices, planar: each has two edges to the next. */
    static final int[] FULL_CHAIN = {0, 1, 1, 2, 2, 3, 3, 4, 4, 5, 5, 6, 6, 7, 7, 8, 8, 9,
            9, 8, 8, 7, 7, 6, 6, 5, 5, 4, 4, 3, 3, 2, 2, 1, 1, 0};
    /** On ten vertices, not planar: three and three twice, with two vertices in common. */
    static final int[] FULL_TANGLE = {0, 3, 0, 4, 0, 5, 1, 3, 1, 4, 1, 5, 2, 3, 2, 4, 2, 5,
            0, 7, 0, 8, 0, 9, 1, 7, 1, 8, 1, 9, 6, 7, 6, 8, 6, 9};
    /** On ten vertices, not planar: five, with a vertex on each of five edges; three are doubled. */
    static final int[] FULL_LONG_FIVE = {0, 2, 1, 3, 2, 4, 0, 5, 5, 1, 1, 6, 6, 2, 2, 7, 7, 3, 3, 8, 8, 4,
            4, 9, 9, 0, 2, 0, 3, 1, 4, 2, 0, 3, 1, 4};
    /** On eight vertices, planar, as many edges as can be without two with the same ends. */
    static final int[] FULL_TRIANGLES = {0, 2, 0, 3, 0, 4, 0, 5, 0, 6, 0, 7, 1, 2, 1, 3, 1, 4, 1, 5, 1, 6, 1, 7,
            2, 3, 3, 4, 4, 5, 5, 6, 6, 7, 7, 2};

    private Graphs() {
    }

    /** Edges given as pairs of ends, all of the same weight. */
    static PlanarSplit of(int n, int weight, int... ends) {
        PlanarSplit x = new PlanarSplit();
        x.begin(n);
        for (int i = 0; i < ends.length; i += 2) {
            x.add(ends[i], ends[i + 1], weight);
        }
        return x;
    }

    static PlanarSplit five() {
        return of(5, 1, FIVE);
    }

    static PlanarSplit threeAndThree() {
        return of(6, 1, THREE_AND_THREE);
    }

    static PlanarSplit cube() {
        return of(8, 1, CUBE);
    }

    static PlanarSplit wheel() {
        return of(6, 2, WHEEL_OF_FIVE);
    }

    static PlanarSplit petersen() {
        return of(10, 1, PETERSEN);
    }

    static PlanarSplit triangleAndFive() {
        return of(10, 1, TRIANGLE_AND_FIVE);
    }

    /** Eighteen edges with the same two ends, in turn from either. */
    static int[] eighteenBetween(int u, int v) {
        int[] ends = new int[36];
        for (int i = 0; i < ends.length; i++) {
            ends[i] = i % 4 == 0 || i % 4 == 3 ? u : v;
        }
        return ends;
    }

    static PlanarSplit eighteen() {
        return of(2, 1, eighteenBetween(0, 1));
    }

    static int[] without(int[] ends, int e) {
        int[] rest = new int[ends.length - 2];
        System.arraycopy(ends, 0, rest, 0, 2 * e);
        System.arraycopy(ends, 2 * e + 2, rest, 2 * e, rest.length - 2 * e);
        return rest;
    }

    static int[] joined(int[] some, int... more) {
        int[] all = new int[some.length + more.length];
        System.arraycopy(some, 0, all, 0, some.length);
        System.arraycopy(more, 0, all, some.length, more.length);
        return all;
    }
}
