/** Promises 7 and 8 and the code of "Terms", sentence by sentence. */
public final class CodeBoundaryTest {
    private static void due(String what, GraphCanon x, int graph, int code) {
        Check.due("code of " + what, x.code(graph), code);
        Check.due("code of the graph beside " + what, x.code(1 - graph), 0);
    }

    private static void coloursFrom(int v, int low) {
        for (int graph = 0; graph < 2; graph++) {
            GraphCanon x = new GraphCanon();
            for (int colour = 3; colour >= 0; colour--) {
                x.colour(graph, v, colour);
                due("colour " + colour + " at " + v, x, graph, colour << low);
            }
        }
    }

    private static void pairsDownFrom14() {
        int[] us = {0, 0, 0, 0, 0, 1, 1, 1, 1, 2, 2, 2, 3, 3, 4};
        int[] vs = {1, 2, 3, 4, 5, 2, 3, 4, 5, 3, 4, 5, 4, 5, 5};
        for (int graph = 0; graph < 2; graph++) {
            for (int place = 0; place < 15; place++) {
                GraphCanon x = new GraphCanon();
                x.edge(graph, us[place], vs[place], true);
                due("the edge " + us[place] + vs[place], x, graph, 1 << 14 - place);
            }
        }
    }

    private static void oneForAnEdge() {
        for (int graph = 0; graph < 2; graph++) {
            GraphCanon x = new GraphCanon();
            due("no edge", x, graph, 0);
            x.complement(graph);
            due("all fifteen edges", x, graph, State.ALL_EDGES);
            x.edge(graph, 0, 1, false);
            due("all but the first", x, graph, State.ALL_EDGES - (1 << 14));
            x.edge(graph, 0, 1, true);
            x.edge(graph, 4, 5, false);
            due("all but the last", x, graph, State.ALL_EDGES - 1);
        }
    }

    private static void twentySevenBits() {
        for (int graph = 0; graph < 2; graph++) {
            GraphCanon x = new GraphCanon();
            due("the least graph", x, graph, 0);
            for (int v = 0; v < 6; v++) {
                x.colour(graph, v, 3);
            }
            due("the greatest graph without edges", x, graph, State.ALL_BITS - State.ALL_EDGES);
            x.complement(graph);
            due("the greatest graph", x, graph, State.ALL_BITS);
            x.colour(graph, 0, 1);
            due("the greatest graph but for bit 26", x, graph, State.ALL_BITS - (1 << 26));
            x.colour(graph, 0, 2);
            due("the greatest graph but for bit 25", x, graph, State.ALL_BITS - (1 << 25));
        }
    }

    private static int canonicalOf(int code, int graph) {
        return new State(graph == 0 ? code : 0, graph == 0 ? 0 : code).make().canonical(graph);
    }

    private static void leastAndGreatest() {
        for (int graph = 0; graph < 2; graph++) {
            Check.due("canonical of nothing", canonicalOf(0, graph), 0);
            Check.due("canonical of all edges", canonicalOf(State.ALL_EDGES, graph), State.ALL_EDGES);
            Check.due("canonical of all bits", canonicalOf(State.ALL_BITS, graph), State.ALL_BITS);
            int onlyColours = State.ALL_BITS - State.ALL_EDGES;
            Check.due("canonical of colour 3 alone", canonicalOf(onlyColours, graph), onlyColours);
        }
    }

    private static void oneThingAlone() {
        for (int bit = 0; bit < 15; bit++) {
            Check.due("canonical of the edge at bit " + bit, canonicalOf(1 << bit, 0), 1);
            // The missing edge goes to the highest bit, between vertices 0 and 1.
            int allBut = State.ALL_EDGES - (1 << bit);
            Check.due("canonical of all but bit " + bit, canonicalOf(allBut, 0), State.ALL_EDGES - (1 << 14));
        }
        for (int v = 0; v < 6; v++) {
            for (int colour = 0; colour < 4; colour++) {
                int code = colour << 25 - 2 * v;
                Check.due("canonical of colour " + colour + " at " + v, canonicalOf(code, 1), colour << 15);
            }
        }
    }

    // Colours stand higher than edges: they come to rise with the vertices, whatever the edges are.
    private static void coloursBeforeEdges() {
        int code = 1 << 25 | 1 << 14;
        Check.due("canonical of an edge from a coloured vertex", canonicalOf(code, 0), 1 << 15 | 1);
        int falling = 3 << 25 | 2 << 23 | 1 << 21;
        Check.due("canonical of falling colours", canonicalOf(falling, 0), 1 << 19 | 2 << 17 | 3 << 15);
        // The edge between the two vertices of colour 0 that stay 0 and 1 can't leave bit 14.
        int pinned = 1 << 21 | 1 << 19 | 2 << 17 | 3 << 15 | 1 << 14;
        Check.due("canonical of an edge held by colours", canonicalOf(pinned, 0), pinned);
    }

    // No two renumberings of a lopsided graph are the same: from each, one alone leads to the smallest.
    private static void anyRenumbering() {
        for (State state : State.ALL) {
            for (int graph = 0; graph < 2; graph++) {
                Model m = state.model();
                int due = m.canonical(graph);
                for (int[] renumbering : Model.RENUMBERINGS) {
                    int code = m.codeUnder(graph, renumbering);
                    Check.due("canonical of " + code, canonicalOf(code, graph), due);
                }
            }
        }
    }

    private static void ofTheSmallestItself() {
        for (State state : State.ALL) {
            for (int graph = 0; graph < 2; graph++) {
                int smallest = state.model().canonical(graph);
                Check.due("canonical of the smallest", canonicalOf(smallest, graph), smallest);
            }
        }
    }

    public static void main(String[] args) {
        String t = "terms and promise 7";
        Check.sentence(t, "vertex 0's in the two highest bits (26 and 25)", () -> coloursFrom(0, 25));
        for (int v = 1; v < 5; v++) {
            int vertex = v;
            Check.sentence(t, "then vertex 1's, down to: " + v, () -> coloursFrom(vertex, 25 - 2 * vertex));
        }
        Check.sentence(t, "down to vertex 5's (bits 16 and 15)", () -> coloursFrom(5, 15));
        Check.sentence(t, "then the pairs (0,1), .. (4,5) in bits 14 down to 0", CodeBoundaryTest::pairsDownFrom14);
        Check.sentence(t, "1 for an edge", CodeBoundaryTest::oneForAnEdge);
        Check.sentence(t, "a number of 27 bits", CodeBoundaryTest::twentySevenBits);
        String c = "terms and promise 8";
        String smallest = "the smallest code that any renumbering of it has";
        Check.sentence(c, smallest + ": the least and the greatest graphs", CodeBoundaryTest::leastAndGreatest);
        Check.sentence(c, smallest + ": one edge or one colour", CodeBoundaryTest::oneThingAlone);
        Check.sentence(c, smallest + ": colours first", CodeBoundaryTest::coloursBeforeEdges);
        Check.sentence(c, smallest + ": whichever renumbering it comes in", CodeBoundaryTest::anyRenumbering);
        Check.sentence(c, smallest + ": the smallest itself", CodeBoundaryTest::ofTheSmallestItself);
        Check.end();
    }
}
