/** Two graphs to begin a test from, told by their codes. */
record State(int code0, int code1) {
    static final int ALL_EDGES = (1 << 15) - 1;
    static final int ALL_BITS = (1 << 27) - 1;

    static final State EMPTY = new State(0, 0);
    static final State FULL = new State(ALL_BITS, ALL_BITS);
    // Edges 0-1 and 1-4, colours 1, 0, 0, 0, 0, 3; and all edges but 2-3, colours 0, 0, 2, 0, 0, 0.
    static final State MIXED = new State(
            1 << 25 | 3 << 15 | 1 << 14 | 1 << 7,
            2 << 21 | ALL_EDGES - (1 << 5));
    // No vertex is like another one: a triangle 1, 2, 5 with arms 1-0 and 2-3-4, and the same
    // with v called 5 - v and two colours.
    static final State LOPSIDED = new State(
            1 << 14 | 1 << 9 | 1 << 6 | 1 << 5 | 1 << 3 | 1 << 2,
            2 << 25 | 1 << 15 | 1 << 12 | 1 << 11 | 1 << 9 | 1 << 5 | 1 << 2 | 1);

    /** Something wrongly set shows in an empty graph, something wrongly cleared in a full one. */
    static final State[] ALL = {EMPTY, FULL, new State(0, ALL_BITS), new State(ALL_BITS, 0), MIXED, LOPSIDED};

    int code(int graph) {
        return graph == 0 ? code0 : code1;
    }

    static int colourIn(int code, int v) {
        return code >> 25 - 2 * v & 3;
    }

    /** A new object brought to this state, in at most 42 calls. */
    GraphCanon make() {
        GraphCanon x = new GraphCanon();
        for (int graph = 0; graph < 2; graph++) {
            int code = code(graph);
            int bit = 14;
            for (int u = 0; u < 6; u++) {
                if (colourIn(code, u) != 0) {
                    x.colour(graph, u, colourIn(code, u));
                }
                for (int v = u + 1; v < 6; v++) {
                    if ((code >> bit & 1) == 1) {
                        x.edge(graph, u, v, true);
                    }
                    bit--;
                }
            }
        }
        return x;
    }

    Model model() {
        Model m = new Model();
        for (int graph = 0; graph < 2; graph++) {
            int code = code(graph);
            int bit = 14;
            for (int u = 0; u < 6; u++) {
                m.colour(graph, u, colourIn(code, u));
                for (int v = u + 1; v < 6; v++) {
                    m.edge(graph, u, v, (code >> bit & 1) == 1);
                    bit--;
                }
            }
        }
        return m;
    }

    /** Whether x is in this state, by every call that asks: 24 calls. */
    void dueIn(GraphCanon x, String after) {
        Model m = model();
        codesDueIn(x, after);
        for (int graph = 0; graph < 2; graph++) {
            String at = after + ", then of graph " + graph + " ";
            Check.due(at + "canonical", x.canonical(graph), m.canonical(graph));
            Check.due(at + "symmetries", x.symmetries(graph), m.symmetries(graph));
            for (int v = 0; v < 6; v++) {
                Check.due(at + "orbit of " + v, x.orbit(graph, v), m.orbit(graph, v));
            }
            Check.due(at + "orbits", x.orbits(graph), m.orbits(graph));
            Check.due(at + "variants", x.variants(graph), m.variants(graph));
        }
        Check.due(after + ", then alike", x.alike(), m.alike());
        Check.due(after + ", then alikeWithoutColours", x.alikeWithoutColours(), m.alikeWithoutColours());
    }

    void codesDueIn(GraphCanon x, String after) {
        Check.due(after + ", then code(0)", x.code(0), code0);
        Check.due(after + ", then code(1)", x.code(1), code1);
    }
}
