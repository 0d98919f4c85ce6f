import java.util.ArrayList;
import java.util.List;

/** Promise 5, and what promise 15 says of complement, sentence by sentence. */
public final class ComplementBoundaryTest {
    private static List<Call> wrongGraph() {
        List<Call> calls = new ArrayList<>();
        for (int graph : Call.WRONG_GRAPHS) {
            calls.add(Call.complement(graph));
        }
        return calls;
    }

    private static State turned(State state, int graph) {
        return graph == 0
                ? new State(state.code0() ^ State.ALL_EDGES, state.code1())
                : new State(state.code0(), state.code1() ^ State.ALL_EDGES);
    }

    private static void turnsEveryPair() {
        for (State state : State.ALL) {
            for (int graph = 0; graph < 2; graph++) {
                GraphCanon x = state.make();
                x.complement(graph);
                turned(state, graph).dueIn(x, "complement(" + graph + ")");
                x.complement(graph);
                state.codesDueIn(x, "complement(" + graph + ") twice");
            }
        }
    }

    private static void oneEdgeAlone() {
        for (int bit = 0; bit < 15; bit++) {
            GraphCanon x = new State(1 << bit, State.ALL_EDGES - (1 << bit)).make();
            x.complement(0);
            Check.due("complement of the edge at bit " + bit, x.code(0), State.ALL_EDGES - (1 << bit));
            x.complement(1);
            Check.due("complement of all but the edge at bit " + bit, x.code(1), 1 << bit);
        }
    }

    // Read by edge and not by code: the pairs themselves have turned.
    private static void fromNowOn() {
        GraphCanon x = new GraphCanon();
        x.edge(1, 0, 1, true);
        x.complement(1);
        Check.due("edge 0-1 after complement", x.edge(1, 0, 1, false), 0);
        Check.due("edge 4-5 after complement", x.edge(1, 4, 5, true), 1);
        Check.due("edge 4-5 of the other graph", x.edge(0, 4, 5, false), 0);
    }

    private static void edgesAfterwards() {
        for (int graph = 0; graph < 2; graph++) {
            for (int edges = 0; edges <= 15; edges++) {
                int low = (1 << edges) - 1;
                int high = low << 15 - edges;
                for (int code : new int[] {low, high, low | State.ALL_BITS - State.ALL_EDGES}) {
                    GraphCanon x = new State(code, code).make();
                    String call = "complement(" + graph + ") of " + edges + " edges";
                    Check.due(call, x.complement(graph), 15 - edges);
                    Check.due(call + " again", x.complement(graph), edges);
                }
            }
        }
    }

    public static void main(String[] args) {
        String p = "promise 5";
        String turns = "Every pair of the graph that has an edge has none from now on, and the other way round";
        Check.sentence(p, turns, ComplementBoundaryTest::turnsEveryPair);
        Check.sentence(p, turns + ": one edge alone, and all but one", ComplementBoundaryTest::oneEdgeAlone);
        Check.sentence(p, turns + ": as edge sees it", ComplementBoundaryTest::fromNowOn);
        Check.sentence(p, "BAD_GRAPH", () -> Call.answer(wrongGraph(), -1));
        Check.sentence(p, "BAD_GRAPH: and no graph has changed", () -> Call.changeNothing(wrongGraph()));
        Check.sentence("promises 5 and 15", "complement answers how many edges the graph has afterwards",
                ComplementBoundaryTest::edgesAfterwards);
        Check.end();
    }
}
