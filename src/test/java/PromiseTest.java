/** One method for each promise of the document: ordinary inputs and the edges it names. */
public final class PromiseTest {
    private static final int ALL = 63;

    private static void path(GraphCanon x, int graph, int... vertices) {
        for (int i = 1; i < vertices.length; i++) {
            x.edge(graph, vertices[i - 1], vertices[i], true);
        }
    }

    private static void promise1NewObject() {
        for (int graph = 0; graph < 2; graph++) {
            GraphCanon x = new GraphCanon();
            Check.due("1: code(" + graph + ")", x.code(graph), 0);
            for (int u = 0; u < 6; u++) {
                Check.due("1: colour of " + u, x.colour(graph, u, 0), 0);
                for (int v = u + 1; v < 6; v++) {
                    Check.due("1: edge " + u + v, x.edge(graph, u, v, false), 0);
                }
            }
            Check.due("1: symmetries", x.symmetries(graph), 720);
            Check.due("1: alike()", x.alike(), true);
        }
        GraphCanon changed = new GraphCanon();
        changed.edge(0, 0, 1, true);
        Check.due("1: code(0) of an object made later", new GraphCanon().code(0), 0);
    }

    private static void promise2Edge() {
        for (int graph = 0; graph < 2; graph++) {
            for (int u = 0; u < 6; u++) {
                for (int v = 0; v < 6; v++) {
                    if (u != v) {
                        edgeComesAndGoes(graph, u, v);
                    }
                }
            }
        }
    }

    private static void edgeComesAndGoes(int graph, int u, int v) {
        String at = "2: edge(" + graph + ", " + u + ", " + v + ") ";
        GraphCanon x = new GraphCanon();
        Check.due(at + "taken away unset", x.edge(graph, u, v, false), 0);
        Check.due(at + "set", x.edge(graph, u, v, true), 0);
        Check.due(at + "set again", x.edge(graph, u, v, true), 1);
        int code = x.code(graph);
        Check.due(at + "leaves one bit", Integer.bitCount(code), 1);
        Check.due(at + "in the other graph", x.code(1 - graph), 0);
        Check.due(at + "taken away the other way round", x.edge(graph, v, u, false), 1);
        Check.due(at + "taken away again", x.edge(graph, u, v, false), 0);
        Check.due(at + "code at the end", x.code(graph), 0);
    }

    private static void promise3Colour() {
        for (int graph = 0; graph < 2; graph++) {
            for (int v = 0; v < 6; v++) {
                GraphCanon x = new GraphCanon();
                x.complement(graph);
                int old = 0;
                for (int colour : new int[] {3, 0, 1, 2, 2, 3, 1, 0}) {
                    String at = "3: colour(" + graph + ", " + v + ", " + colour + ") ";
                    Check.due(at, x.colour(graph, v, colour), old);
                    Check.due(at + "code", x.code(graph), (colour << (25 - 2 * v)) + 32767);
                    Check.due(at + "other graph", x.code(1 - graph), 0);
                    old = colour;
                }
            }
        }
    }

    private static void promise4Exchange() {
        GraphCanon x = new GraphCanon();
        path(x, 0, 0, 1, 2);
        x.colour(0, 0, 3);
        x.colour(0, 5, 1);
        x.copy();
        int before = x.code(0);
        Check.due("4: exchange(0, 0, 5)", x.exchange(0, 0, 5), 0);
        Check.due("4: old colour of 5", x.colour(0, 5, 3), 3);
        Check.due("4: old colour of 0", x.colour(0, 0, 1), 1);
        Check.due("4: edge 5-1", x.edge(0, 5, 1, true), 1);
        Check.due("4: edge 0-1", x.edge(0, 0, 1, false), 0);
        Check.due("4: edge 1-2", x.edge(0, 1, 2, true), 1);
        Check.due("4: alike()", x.alike(), true);
        Check.due("4: code(1)", x.code(1), before);
        Check.due("4: exchange(0, 5, 0)", x.exchange(0, 5, 0), 0);
        Check.due("4: code(0) back again", x.code(0), before);
        for (int v = 0; v < 6; v++) {
            Check.due("4: exchange of one vertex", x.exchange(0, v, v), 0);
            Check.due("4: code after it", x.code(0), before);
        }
        // The ends of an edge keep that edge between them.
        Check.due("4: exchange(0, 0, 1)", x.exchange(0, 0, 1), 0);
        Check.due("4: edge 0-1 kept", x.edge(0, 0, 1, true), 1);
        Check.due("4: edge 0-2", x.edge(0, 0, 2, true), 1);
        Check.due("4: edge 1-2 gone", x.edge(0, 1, 2, false), 0);
    }

    private static void promise5Complement() {
        GraphCanon x = new GraphCanon();
        x.colour(1, 2, 3);
        Check.due("5: complement(1)", x.complement(1), 15);
        Check.due("5: code(1)", x.code(1), (3 << 21) + 32767);
        Check.due("5: code(0)", x.code(0), 0);
        x.edge(1, 4, 5, false);
        Check.due("5: complement(1) again", x.complement(1), 1);
        Check.due("5: code(1) again", x.code(1), (3 << 21) + 1);
        Check.due("5: complement(0)", x.complement(0), 15);
        Check.due("5: complement(0) again", x.complement(0), 0);
        Check.due("5: code(0) again", x.code(0), 0);
    }

    private static void promise6Copy() {
        GraphCanon x = new GraphCanon();
        path(x, 0, 3, 4, 0);
        x.colour(0, 1, 2);
        x.complement(1);
        x.colour(1, 5, 3);
        int code = x.code(0);
        x.copy();
        Check.due("6: code(1)", x.code(1), code);
        Check.due("6: code(0)", x.code(0), code);
        x.edge(1, 3, 4, false);
        Check.due("6: code(0) after a change of graph 1", x.code(0), code);
        x.copy();
        x.colour(0, 1, 0);
        Check.due("6: code(1) after a change of graph 0", x.code(1), code);
    }

    private static void promise7Code() {
        int bit = 14;
        for (int u = 0; u < 6; u++) {
            for (int v = u + 1; v < 6; v++) {
                GraphCanon x = new GraphCanon();
                x.edge(0, u, v, true);
                Check.due("7: code of edge " + u + v, x.code(0), 1 << bit);
                bit--;
            }
        }
        GraphCanon x = new GraphCanon();
        for (int v = 0; v < 6; v++) {
            x.colour(1, v, 3);
        }
        x.complement(1);
        Check.due("7: the greatest code", x.code(1), (1 << 27) - 1);
        Check.due("7: the other graph's", x.code(0), 0);
        x.colour(1, 0, 2);
        Check.due("7: bit 25 cleared", x.code(1), (1 << 27) - 1 - (1 << 25));
    }

    private static void promise8Canonical() {
        GraphCanon x = new GraphCanon();
        Check.due("8: of nothing", x.canonical(0), 0);
        x.edge(0, 0, 1, true);
        Check.due("8: of one edge", x.canonical(0), 1);
        x.edge(0, 1, 2, true);
        Check.due("8: of a path of three", x.canonical(0), 3);
        x.edge(0, 0, 2, true);
        Check.due("8: of a triangle", x.canonical(0), 7);
        Check.due("8: code(0) is still", x.code(0), 0x6200);
        // Colours stand in front: the coloured vertex goes last whatever its edges.
        x.colour(0, 0, 1);
        Check.due("8: of a triangle with a colour", x.canonical(0), (1 << 15) + 7);
        for (int v = 0; v < 6; v++) {
            x.colour(1, v, 3);
        }
        x.complement(1);
        Check.due("8: the greatest", x.canonical(1), (1 << 27) - 1);
    }

    private static void promise9Symmetries() {
        GraphCanon x = new GraphCanon();
        Check.due("9: of nothing", x.symmetries(0), 720);
        path(x, 0, 0, 1, 2, 3, 4, 5);
        Check.due("9: of a path", x.symmetries(0), 2);
        x.edge(0, 5, 0, true);
        Check.due("9: of a ring", x.symmetries(0), 12);
        x.colour(0, 0, 1);
        Check.due("9: of a ring with one colour", x.symmetries(0), 2);
        x.colour(0, 1, 2);
        Check.due("9: of a ring with two colours", x.symmetries(0), 1);
        Check.due("9: of the other graph", x.symmetries(1), 720);
        x.complement(1);
        Check.due("9: of all edges", x.symmetries(1), 720);
    }

    private static void promise10Orbit() {
        GraphCanon x = new GraphCanon();
        path(x, 0, 0, 1, 2, 3, 4, 5);
        int[] due = {0b100001, 0b010010, 0b001100, 0b001100, 0b010010, 0b100001};
        for (int v = 0; v < 6; v++) {
            Check.due("10: in a path, of " + v, x.orbit(0, v), due[v]);
            Check.due("10: in nothing, of " + v, x.orbit(1, v), ALL);
        }
        x.colour(0, 2, 1);
        for (int v = 0; v < 6; v++) {
            Check.due("10: in a lopsided path, of " + v, x.orbit(0, v), 1 << v);
        }
        // A ring of three with three single vertices: carried round, not only swapped.
        path(x, 1, 1, 3, 5, 1);
        Check.due("10: in a triangle", x.orbit(1, 3), 0b101010);
        Check.due("10: beside a triangle", x.orbit(1, 0), 0b010101);
    }

    private static void promise11Orbits() {
        GraphCanon x = new GraphCanon();
        Check.due("11: of nothing", x.orbits(0), 1);
        x.edge(0, 4, 5, true);
        Check.due("11: of one edge", x.orbits(0), 2);
        path(x, 1, 5, 3, 1, 0, 2, 4);
        Check.due("11: of a path", x.orbits(1), 3);
        x.colour(1, 5, 2);
        Check.due("11: of a lopsided path", x.orbits(1), 6);
        for (int v = 0; v < 6; v++) {
            x.colour(0, v, v < 4 ? v : 0);
        }
        Check.due("11: of an edge and four colours", x.orbits(0), 5);
    }

    private static void promise12Variants() {
        GraphCanon x = new GraphCanon();
        Check.due("12: of nothing", x.variants(0), 1);
        x.edge(0, 2, 5, true);
        Check.due("12: of one edge", x.variants(0), 15);
        x.colour(0, 2, 1);
        Check.due("12: of one edge with an end coloured", x.variants(0), 30);
        path(x, 1, 0, 1, 2, 3, 4, 5);
        Check.due("12: of a path", x.variants(1), 360);
        x.edge(1, 5, 0, true);
        Check.due("12: of a ring", x.variants(1), 60);
        x.colour(1, 0, 3);
        x.colour(1, 1, 1);
        Check.due("12: of a ring with two colours", x.variants(1), 720);
    }

    private static void promise13Alike() {
        GraphCanon x = new GraphCanon();
        path(x, 0, 0, 1, 2, 3);
        path(x, 1, 5, 0, 3, 1);
        Check.due("13: two paths", x.alike(), true);
        x.colour(0, 0, 2);
        Check.due("13: a colour in one alone", x.alike(), false);
        x.colour(1, 1, 2);
        Check.due("13: the same colour at an end", x.alike(), true);
        x.colour(1, 1, 0);
        x.colour(1, 0, 2);
        Check.due("13: the same colour inside", x.alike(), false);
        x.colour(1, 0, 0);
        x.colour(1, 5, 1);
        Check.due("13: another colour at an end", x.alike(), false);
        // Two rings of three and a ring of six: each vertex has two edges in both.
        GraphCanon y = new GraphCanon();
        path(y, 0, 0, 1, 2, 0);
        path(y, 0, 3, 4, 5, 3);
        path(y, 1, 0, 1, 2, 3, 4, 5, 0);
        Check.due("13: rings", y.alike(), false);
    }

    private static void promise14AlikeWithoutColours() {
        GraphCanon x = new GraphCanon();
        path(x, 0, 0, 1, 2, 3);
        path(x, 1, 5, 0, 3, 1);
        x.colour(0, 0, 2);
        x.colour(1, 4, 3);
        int code = x.code(0);
        int other = x.code(1);
        Check.due("14: paths of different colours", x.alikeWithoutColours(), true);
        Check.due("14: alike()", x.alike(), false);
        Check.due("14: code(0) keeps its colours", x.code(0), code);
        Check.due("14: code(1) keeps its colours", x.code(1), other);
        x.edge(1, 1, 5, true);
        Check.due("14: a path and a ring", x.alikeWithoutColours(), false);
        x.edge(0, 0, 2, true);
        Check.due("14: as many edges, placed otherwise", x.alikeWithoutColours(), false);
        x.copy();
        x.complement(1);
        Check.due("14: a graph and its complement", x.alikeWithoutColours(), false);
    }

    private static void promise15OrderAndLimits() {
        GraphCanon x = new GraphCanon();
        Check.due("15: edge(2, 6, 6)", x.edge(2, 6, 6, true), GraphCanon.BAD_GRAPH);
        Check.due("15: edge(-1, 3, 3)", x.edge(-1, 3, 3, true), GraphCanon.BAD_GRAPH);
        Check.due("15: edge(0, 6, 6)", x.edge(0, 6, 6, true), GraphCanon.BAD_VERTEX);
        Check.due("15: colour(2, 6, 4)", x.colour(2, 6, 4), GraphCanon.BAD_GRAPH);
        Check.due("15: colour(2, 0, 4)", x.colour(2, 0, 4), GraphCanon.BAD_GRAPH);
        Check.due("15: colour(1, 6, 4)", x.colour(1, 6, 4), GraphCanon.BAD_VERTEX);
        Check.due("15: colour(1, 5, 4)", x.colour(1, 5, 4), GraphCanon.BAD_COLOUR);
        Check.due("15: exchange(2, 6, 6)", x.exchange(2, 6, 6), GraphCanon.BAD_GRAPH);
        Check.due("15: exchange(0, 6, 6)", x.exchange(0, 6, 6), GraphCanon.BAD_VERTEX);
        Check.due("15: orbit(2, 6)", x.orbit(2, 6), GraphCanon.BAD_GRAPH);
        path(x, 0, 0, 1, 2);
        Check.due("15: complement(0), edges afterwards", x.complement(0), 13);
        Check.due("15: complement(0), edges afterwards", x.complement(0), 2);
    }

    // The last call that the document speaks of answers as the first one does.
    private static void promise15LastCall() {
        GraphCanon x = new GraphCanon();
        for (int call = 1; call < 512; call++) {
            Check.due("15: call " + call, x.complement(0), call % 2 == 1 ? 15 : 0);
        }
        Check.due("15: call 512", x.symmetries(0), 720);
    }

    public static void main(String[] args) {
        promise1NewObject();
        promise2Edge();
        promise3Colour();
        promise4Exchange();
        promise5Complement();
        promise6Copy();
        promise7Code();
        promise8Canonical();
        promise9Symmetries();
        promise10Orbit();
        promise11Orbits();
        promise12Variants();
        promise13Alike();
        promise14AlikeWithoutColours();
        promise15OrderAndLimits();
        promise15LastCall();
        Check.end();
    }
}
