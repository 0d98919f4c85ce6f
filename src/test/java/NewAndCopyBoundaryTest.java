/** Promises 1 and 6, sentence by sentence. */
public final class NewAndCopyBoundaryTest {
    private static void noEdges() {
        for (int graph = 0; graph < 2; graph++) {
            GraphCanon x = new GraphCanon();
            for (int u = 0; u < 6; u++) {
                for (int v = 0; v < 6; v++) {
                    if (u != v) {
                        Check.due("new: edge " + u + v + " of graph " + graph, x.edge(graph, u, v, false), 0);
                    }
                }
            }
            Check.due("new: complement(" + graph + ")", new GraphCanon().complement(graph), 15);
        }
    }

    private static void onlyColour0() {
        for (int graph = 0; graph < 2; graph++) {
            GraphCanon x = new GraphCanon();
            for (int v = 0; v < 6; v++) {
                Check.due("new: colour of " + v + " in graph " + graph, x.colour(graph, v, 0), 0);
            }
        }
    }

    private static void everyAnswerOfANewObject() {
        GraphCanon x = new GraphCanon();
        for (int graph = 0; graph < 2; graph++) {
            Check.due("new: code", x.code(graph), 0);
            Check.due("new: canonical", x.canonical(graph), 0);
            Check.due("new: symmetries", x.symmetries(graph), 720);
            Check.due("new: orbits", x.orbits(graph), 1);
            Check.due("new: variants", x.variants(graph), 1);
            for (int v = 0; v < 6; v++) {
                Check.due("new: orbit of " + v, x.orbit(graph, v), 63);
            }
        }
        Check.due("new: alike", x.alike(), true);
        Check.due("new: alikeWithoutColours", x.alikeWithoutColours(), true);
    }

    private static void objectsAreApart() {
        GraphCanon early = new GraphCanon();
        GraphCanon changed = State.FULL.make();
        State.EMPTY.codesDueIn(early, "another object was changed");
        State.EMPTY.dueIn(new GraphCanon(), "made after another object was changed");
        early.edge(0, 0, 1, true);
        early.copy();
        State.FULL.dueIn(changed, "an older object was changed");
    }

    private static void becomesTheSame() {
        for (State state : State.ALL) {
            GraphCanon x = state.make();
            State due = new State(state.code0(), state.code0());
            x.copy();
            due.dueIn(x, "copy");
            x.copy();
            due.codesDueIn(x, "copy again");
        }
    }

    // Every one of the 27 bits alone, over an empty graph and over a full one.
    private static void everyBit() {
        for (int bit = 0; bit < 27; bit++) {
            for (int over : new int[] {0, State.ALL_BITS}) {
                for (int code : new int[] {1 << bit, State.ALL_BITS - (1 << bit)}) {
                    GraphCanon x = new State(code, over).make();
                    x.copy();
                    new State(code, code).codesDueIn(x, "copy of bit " + bit);
                }
            }
        }
    }

    private static void graphsAreNotTied() {
        GraphCanon x = State.MIXED.make();
        x.copy();
        int code = State.MIXED.code0();
        x.edge(1, 2, 3, true);
        x.colour(1, 5, 0);
        x.exchange(1, 0, 4);
        x.complement(1);
        Check.due("code(0) after changes of the copy", x.code(0), code);
        x.copy();
        x.edge(0, 2, 3, true);
        x.colour(0, 5, 0);
        x.exchange(0, 0, 4);
        x.complement(0);
        Check.due("code(1) after changes of the first", x.code(1), code);
    }

    public static void main(String[] args) {
        Check.sentence("promise 1", "Both graphs have no edges ..", NewAndCopyBoundaryTest::noEdges);
        Check.sentence("promise 1", ".. and only colour 0", NewAndCopyBoundaryTest::onlyColour0);
        Check.sentence("promise 1", "Both graphs have no edges and only colour 0: every call that asks",
                NewAndCopyBoundaryTest::everyAnswerOfANewObject);
        Check.sentence("promise 1", "Both graphs have no edges and only colour 0: whatever other objects hold",
                NewAndCopyBoundaryTest::objectsAreApart);
        Check.sentence("promise 6", "Graph 1 becomes the same as graph 0", NewAndCopyBoundaryTest::becomesTheSame);
        Check.sentence("promise 6", "Graph 1 becomes the same as graph 0: every colour and every edge",
                NewAndCopyBoundaryTest::everyBit);
        Check.sentence("promise 6", "Graph 1 becomes the same as graph 0: at that time alone",
                NewAndCopyBoundaryTest::graphsAreNotTied);
        Check.end();
    }
}
