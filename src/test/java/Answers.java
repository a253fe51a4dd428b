/** What a graph answers for all its vertices or edges, as one text. */
final class Answers {
    private Answers() {
    }

    static String components(PlanarSplit x, int n) {
        StringBuilder row = new StringBuilder();
        for (int v = 0; v < n; v++) {
            row.append(x.component(v));
        }
        return row.toString();
    }

    static String blocks(PlanarSplit x) {
        StringBuilder row = new StringBuilder();
        for (int e = 0; e < x.edges(); e++) {
            row.append(x.block(e)).append(' ');
        }
        return row.toString().trim();
    }

    static String sides(PlanarSplit x, int n) {
        StringBuilder row = new StringBuilder();
        for (int v = 0; v < n; v++) {
            row.append(x.side(v));
        }
        return row.toString();
    }

    static String crossing(PlanarSplit x) {
        StringBuilder row = new StringBuilder();
        for (int e = 0; e < x.edges(); e++) {
            row.append(x.crosses(e) ? '1' : '0');
        }
        return row.toString();
    }

    static String witness(PlanarSplit x) {
        StringBuilder row = new StringBuilder();
        for (int e = 0; e < x.edges(); e++) {
            row.append(x.witness(e) ? '1' : '0');
        }
        return row.toString();
    }

    /** Every question there is: at most 160 calls. */
    static String all(PlanarSplit x) {
        return x.edges() + " " + x.components() + " " + x.blocks() + " " + x.planar() + " " + x.faces() + " "
                + x.cut() + " " + x.kind() + " " + components(x, 11) + " " + sides(x, 11) + " " + blocks(x)
                + " " + crossing(x) + " " + witness(x);
    }
}
