/**
 * A small graph that is split in two as heavily as can be while it is planar, and that shows
 * a smallest part that is not planar when it is not.
 *
 * Sets of vertices and sets of edges are held as the bits of an int everywhere in this file.
 */
public final class PlanarSplit {
    public static final int NONE = -1;

    private static final int MOST_VERTICES = 10;
    private static final int MOST_EDGES = 18;

    private final Graph graph;
    private final Pieces pieces;
    private final Pieces partPieces;
    private final Drawing drawing;
    private final Split split;

    // What has been worked out is kept until the graph changes, as most calls only ask.
    private boolean piecesKnown;
    private boolean tangleKnown;
    private boolean splitKnown;
    private boolean witnessKnown;
    /** The edges of all blocks that are not planar. */
    private int tangle;
    private int witnessSet;

    public PlanarSplit() {
        graph = new Graph();
        pieces = new Pieces(graph);
        partPieces = new Pieces(graph);
        drawing = new Drawing(graph);
        split = new Split(graph);
    }

    public boolean begin(int n) {
        if (n < 0 || n > MOST_VERTICES) {
            return false;
        }
        graph.vertexCount = n;
        graph.edgeCount = 0;
        forgetAll();
        return true;
    }

    public int add(int u, int v, int weight) {
        if (!graph.hasVertex(u) || !graph.hasVertex(v) || u == v) {
            return NONE;
        }
        if (weight < 0 || graph.edgeCount >= MOST_EDGES) {
            return NONE;
        }
        int e = graph.edgeCount;
        graph.first[e] = u;
        graph.second[e] = v;
        graph.weight[e] = weight;
        graph.edgeCount = e + 1;
        forgetAll();
        return e;
    }

    public int undo() {
        if (graph.edgeCount == 0) {
            return NONE;
        }
        graph.edgeCount--;
        forgetAll();
        return graph.edgeCount;
    }

    public boolean weigh(int e, int weight) {
        if (!graph.hasEdge(e) || weight < 0) {
            return false;
        }
        graph.weight[e] = weight;
        // Weights decide on nothing but the split.
        splitKnown = false;
        return true;
    }

    public int edges() {
        return graph.edgeCount;
    }

    public int components() {
        sortPieces();
        return Integer.bitCount(pieces.componentHeads);
    }

    public int component(int v) {
        if (!graph.hasVertex(v)) {
            return NONE;
        }
        sortPieces();
        return Bits.countBelowLeast(pieces.componentHeads, pieces.componentOf[v]);
    }

    public int blocks() {
        sortPieces();
        return Integer.bitCount(pieces.blockHeads);
    }

    public int block(int e) {
        if (!graph.hasEdge(e)) {
            return NONE;
        }
        sortPieces();
        return Bits.countBelowLeast(pieces.blockHeads, pieces.blockOf[e]);
    }

    public boolean planar() {
        findTangle();
        return tangle == 0;
    }

    public int faces() {
        findTangle();
        int sum = 0;
        for (int v = 0; v < graph.vertexCount; v++) {
            if (Bits.has(pieces.componentHeads, v)) {
                sum += facesOf(pieces.componentOf[v]);
            }
        }
        return sum;
    }

    public long cut() {
        findTangle();
        if (tangle != 0) {
            return NONE;
        }
        makeSplit();
        return split.heaviest();
    }

    public int side(int v) {
        findTangle();
        if (!graph.hasVertex(v) || tangle != 0) {
            return NONE;
        }
        makeSplit();
        return Bits.has(split.sideOne, v) ? 1 : 0;
    }

    public boolean crosses(int e) {
        findTangle();
        if (!graph.hasEdge(e) || tangle != 0) {
            return false;
        }
        makeSplit();
        return graph.isBetween(e, split.sideOne);
    }

    public boolean witness(int e) {
        findTangle();
        if (!graph.hasEdge(e) || tangle == 0) {
            return false;
        }
        findWitness();
        return Bits.has(witnessSet, e);
    }

    public int kind() {
        findTangle();
        if (tangle == 0) {
            return 0;
        }
        findWitness();
        for (int v = 0; v < graph.vertexCount; v++) {
            if (graph.degree(v, witnessSet) == 4) {
                return 5;
            }
        }
        return 3;
    }

    private void forgetAll() {
        piecesKnown = false;
        tangleKnown = false;
        splitKnown = false;
        witnessKnown = false;
    }

    private void sortPieces() {
        if (!piecesKnown) {
            pieces.sort(graph.allEdges());
            piecesKnown = true;
        }
    }

    private void findTangle() {
        if (!tangleKnown) {
            sortPieces();
            tangle = drawing.tangleOf(pieces);
            tangleKnown = true;
        }
    }

    private void makeSplit() {
        if (!splitKnown) {
            split.make(pieces.componentHeads);
            splitKnown = true;
        }
    }

    private void findWitness() {
        if (!witnessKnown) {
            witnessSet = graph.allEdges();
            for (int e = 0; e < graph.edgeCount; e++) {
                int less = witnessSet & ~(1 << e);
                partPieces.sort(less);
                if (drawing.tangleOf(partPieces) != 0) {
                    witnessSet = less;
                }
            }
            witnessKnown = true;
        }
    }

    // Euler's formula spares counting the faces of a drawing, for all have the same number.
    private int facesOf(int component) {
        int within = 0;
        for (int e = 0; e < graph.edgeCount; e++) {
            if (Bits.has(component, graph.first[e])) {
                if (Bits.has(tangle, e)) {
                    return 0;
                }
                within++;
            }
        }
        return 2 - Integer.bitCount(component) + within;
    }

    /** Sets of small numbers as bits. */
    private static final class Bits {
        static boolean has(int set, int member) {
            return (set >> member & 1) != 0;
        }

        /** The least member of a set that is not empty. */
        static int least(int set) {
            return Integer.bitCount((set & -set) - 1);
        }

        /** How many members of one set are below the least member of another that is not empty. */
        static int countBelowLeast(int counted, int other) {
            return Integer.bitCount(counted & ((other & -other) - 1));
        }
    }

    /** The vertices and the edges as they were added. */
    private static final class Graph {
        int vertexCount;
        int edgeCount;
        final int[] first = new int[MOST_EDGES];
        final int[] second = new int[MOST_EDGES];
        final int[] weight = new int[MOST_EDGES];

        boolean hasVertex(int v) {
            return v >= 0 && v < vertexCount;
        }

        boolean hasEdge(int e) {
            return e >= 0 && e < edgeCount;
        }

        int allEdges() {
            return (1 << edgeCount) - 1;
        }

        int ends(int e) {
            return 1 << first[e] | 1 << second[e];
        }

        /** Whether an edge has one end in a set of vertices and one outside. */
        boolean isBetween(int e, int vertices) {
            return ((vertices >> first[e] ^ vertices >> second[e]) & 1) != 0;
        }

        int degree(int v, int part) {
            int sum = 0;
            for (int e = 0; e < edgeCount; e++) {
                if (Bits.has(part, e) && (first[e] == v || second[e] == v)) {
                    sum++;
                }
            }
            return sum;
        }
    }

    /** The components and blocks of a part of the graph. */
    private static final class Pieces {
        private final Graph graph;
        /** For each vertex the vertices of its component. */
        final int[] componentOf = new int[MOST_VERTICES];
        /** For each edge the edges of its block; none for an edge that the part has not. */
        final int[] blockOf = new int[MOST_EDGES];
        /** The least vertices of the components. */
        int componentHeads;
        /** The least edges of the blocks. */
        int blockHeads;
        /** For each vertex the tree edges that lead to it from one fixed vertex of its component. */
        private final int[] way = new int[MOST_VERTICES];

        Pieces(Graph graph) {
            this.graph = graph;
        }

        void sort(int part) {
            for (int v = 0; v < graph.vertexCount; v++) {
                componentOf[v] = 1 << v;
                way[v] = 0;
            }
            for (int e = 0; e < graph.edgeCount; e++) {
                blockOf[e] = part & 1 << e;
            }
            for (int e = 0; e < graph.edgeCount; e++) {
                if (Bits.has(part, e)) {
                    place(graph.first[e], graph.second[e], e);
                }
            }
            componentHeads = heads(componentOf, graph.vertexCount);
            blockHeads = heads(blockOf, graph.edgeCount);
        }

        private void place(int u, int v, int e) {
            // Tree edges on the ways to both ends cancel out: those between the ends are left.
            int steps = way[u] ^ way[v] ^ 1 << e;
            if (Bits.has(componentOf[u], v)) {
                uniteBlocks(steps);
            } else {
                joinComponents(componentOf[u], componentOf[v], steps);
            }
        }

        private void joinComponents(int kept, int moved, int steps) {
            for (int w = 0; w < graph.vertexCount; w++) {
                if (Bits.has(kept | moved, w)) {
                    componentOf[w] = kept | moved;
                }
                if (Bits.has(moved, w)) {
                    way[w] ^= steps;
                }
            }
        }

        // The circles that an edge closes with a tree are enough: all others are made of them.
        private void uniteBlocks(int circle) {
            int united = 0;
            for (int e = 0; e < graph.edgeCount; e++) {
                if (Bits.has(circle, e)) {
                    united |= blockOf[e];
                }
            }
            for (int e = 0; e < graph.edgeCount; e++) {
                if (Bits.has(united, e)) {
                    blockOf[e] = united;
                }
            }
        }

        private static int heads(int[] setOf, int count) {
            int found = 0;
            for (int i = 0; i < count; i++) {
                found |= setOf[i] & -setOf[i];
            }
            return found;
        }
    }

    /**
     * Draws a block path by path (Demoucron, Malgrange and Pertuiset). What is not drawn yet
     * falls into fragments that meet the drawing in two vertices or more; a fragment fits into
     * a face that has all of these. It is enough to take a fragment that fits into the fewest.
     */
    private static final class Drawing {
        /** A block with fewer edges is planar: three and three vertices have nine. */
        private static final int FEWEST_TANGLED = 9;
        /** A drawing begins with one edge and one face, and every further path adds a face. */
        private static final int MOST_FACES = MOST_EDGES;

        private final Graph graph;
        private final int[] edgesAt = new int[MOST_VERTICES];
        private final int[] neighbours = new int[MOST_VERTICES];
        private int drawnEdges;
        private int drawnVertices;

        /** Each face as the vertices on its walk; no vertex is twice on it, as all is one block. */
        private final int[][] walk = new int[MOST_FACES][MOST_VERTICES];
        private final int[] walkLength = new int[MOST_FACES];
        private final int[] walkSet = new int[MOST_FACES];
        private int faceCount;

        private int fragmentEdges;
        private int fragmentVertices;
        private int chosenEdges;
        private int chosenContacts;

        private final int[] cameBy = new int[MOST_VERTICES];
        private final int[] path = new int[MOST_VERTICES];
        private int pathLength;
        private final int[] oldWalk = new int[MOST_VERTICES];

        Drawing(Graph graph) {
            this.graph = graph;
        }

        /** The edges of all blocks that are not planar. */
        int tangleOf(Pieces pieces) {
            int found = 0;
            for (int e = 0; e < graph.edgeCount; e++) {
                if (Bits.has(pieces.blockHeads, e) && !canDraw(pieces.blockOf[e])) {
                    found |= pieces.blockOf[e];
                }
            }
            return found;
        }

        private boolean canDraw(int block) {
            if (Integer.bitCount(block) < FEWEST_TANGLED) {
                return true;
            }
            lookAround(block);
            drawEdge(Bits.least(block));
            for (int paths = 1; paths < MOST_FACES && drawnEdges != block; paths++) {
                if (!chooseFragment(block)) {
                    return false;
                }
                drawPath();
                divideFace(faceWith(chosenContacts));
            }
            return drawnEdges == block;
        }

        private void lookAround(int block) {
            for (int v = 0; v < graph.vertexCount; v++) {
                edgesAt[v] = 0;
                neighbours[v] = 0;
            }
            for (int e = 0; e < graph.edgeCount; e++) {
                if (Bits.has(block, e)) {
                    int u = graph.first[e];
                    int v = graph.second[e];
                    edgesAt[u] |= 1 << e;
                    edgesAt[v] |= 1 << e;
                    neighbours[u] |= 1 << v;
                    neighbours[v] |= 1 << u;
                }
            }
        }

        private void drawEdge(int e) {
            drawnEdges = 1 << e;
            drawnVertices = graph.ends(e);
            walk[0][0] = graph.first[e];
            walk[0][1] = graph.second[e];
            walkLength[0] = 2;
            walkSet[0] = drawnVertices;
            faceCount = 1;
        }

        /** False when some fragment fits nowhere. */
        private boolean chooseFragment(int block) {
            int left = block & ~drawnEdges;
            int fewest = MOST_FACES + 1;
            for (int e = 0; e < graph.edgeCount; e++) {
                if (Bits.has(left, e)) {
                    gatherFragment(e);
                    left &= ~fragmentEdges;
                    int contacts = fragmentVertices & drawnVertices;
                    int fitting = countFacesWith(contacts);
                    if (fitting == 0) {
                        return false;
                    }
                    if (fitting < fewest) {
                        fewest = fitting;
                        chosenEdges = fragmentEdges;
                        chosenContacts = contacts;
                    }
                }
            }
            return true;
        }

        private void gatherFragment(int e) {
            fragmentEdges = 1 << e;
            fragmentVertices = graph.ends(e);
            int toVisit = fragmentVertices & ~drawnVertices;
            int visited = 0;
            for (int visits = 0; visits < MOST_VERTICES && toVisit != 0; visits++) {
                int v = Bits.least(toVisit);
                visited |= 1 << v;
                fragmentEdges |= edgesAt[v];
                fragmentVertices |= neighbours[v];
                toVisit = fragmentVertices & ~drawnVertices & ~visited;
            }
        }

        private int countFacesWith(int vertices) {
            int sum = 0;
            for (int f = 0; f < faceCount; f++) {
                if ((vertices & ~walkSet[f]) == 0) {
                    sum++;
                }
            }
            return sum;
        }

        private int faceWith(int vertices) {
            int f = 0;
            while (f < faceCount - 1 && (vertices & ~walkSet[f]) != 0) {
                f++;
            }
            return f;
        }

        /** Draws a path through the chosen fragment that meets the drawing in its two ends alone. */
        private void drawPath() {
            // A fragment of a block has two contacts or more, so a goal is always reached.
            int start = Bits.least(chosenContacts);
            int goals = chosenContacts & ~(1 << start);
            int reached = 1 << start;
            for (int steps = 1; steps < MOST_VERTICES && (reached & goals) == 0; steps++) {
                reached = spread(reached);
            }
            int v = Bits.least(reached & goals);
            path[0] = v;
            pathLength = 1;
            while (v != start && graph.hasVertex(v) && pathLength < MOST_VERTICES) {
                int e = cameBy[v];
                v = graph.first[e] == v ? graph.second[e] : graph.first[e];
                drawnEdges |= 1 << e;
                drawnVertices |= 1 << v;
                path[pathLength] = v;
                pathLength++;
            }
        }

        private int spread(int reached) {
            int wider = reached;
            for (int e = 0; e < graph.edgeCount; e++) {
                if (Bits.has(chosenEdges, e) && graph.isBetween(e, reached)) {
                    int u = graph.first[e];
                    int far = Bits.has(reached, u) ? graph.second[e] : u;
                    cameBy[far] = e;
                    wider |= 1 << far;
                }
            }
            return wider;
        }

        /** The path becomes a chord of a face: of the two arcs of its walk, each gets a face. */
        private void divideFace(int f) {
            int length = walkLength[f];
            System.arraycopy(walk[f], 0, oldWalk, 0, length);
            int from = placeOf(path[0], length);
            int to = placeOf(path[pathLength - 1], length);
            startWalk(f);
            walkArc(f, from, to, length);
            for (int i = pathLength - 2; i > 0; i--) {
                walkTo(f, path[i]);
            }
            startWalk(faceCount);
            walkArc(faceCount, to, from, length);
            for (int i = 1; i < pathLength - 1; i++) {
                walkTo(faceCount, path[i]);
            }
            faceCount++;
        }

        private int placeOf(int v, int length) {
            int i = 0;
            while (i < length - 1 && oldWalk[i] != v) {
                i++;
            }
            return i;
        }

        private void startWalk(int f) {
            walkLength[f] = 0;
            walkSet[f] = 0;
        }

        private void walkArc(int f, int from, int to, int length) {
            int last = to < from ? to + length : to;
            for (int i = from; i <= last; i++) {
                walkTo(f, oldWalk[i < length ? i : i - length]);
            }
        }

        private void walkTo(int f, int v) {
            if (walkLength[f] < MOST_VERTICES) {
                walk[f][walkLength[f]] = v;
                walkLength[f]++;
                walkSet[f] |= 1 << v;
            }
        }
    }

    /** The heaviest choice of sides. */
    private static final class Split {
        private final Graph graph;
        /** The vertices on side 1. */
        int sideOne;
        private long greatest;
        private final long[] worth = new long[MOST_EDGES];

        Split(Graph graph) {
            this.graph = graph;
        }

        long heaviest() {
            return greatest >> MOST_EDGES;
        }

        /** Tries all choices that leave some given vertices on side 0. */
        void make(int onSideZero) {
            setWorths();
            greatest = -1;
            for (int choice = 0; choice < 1 << graph.vertexCount; choice++) {
                if ((choice & onSideZero) == 0) {
                    long sum = worthBetween(choice);
                    if (sum > greatest) {
                        greatest = sum;
                        sideOne = choice;
                    }
                }
            }
        }

        // Below the weights each edge has a bit of its own, the first edge the highest: so of
        // several choices with the same weight the greatest worth is that of the one due.
        private void setWorths() {
            for (int e = 0; e < graph.edgeCount; e++) {
                worth[e] = ((long) graph.weight[e] << MOST_EDGES) + (1L << (MOST_EDGES - 1 - e));
            }
        }

        private long worthBetween(int choice) {
            long sum = 0;
            for (int e = 0; e < graph.edgeCount; e++) {
                if (graph.isBetween(e, choice)) {
                    sum += worth[e];
                }
            }
            return sum;
        }
    }
}
