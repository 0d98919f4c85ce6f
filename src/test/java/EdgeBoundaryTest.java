import java.util.ArrayList;
import java.util.List;

/** Promise 2, sentence by sentence. */
public final class EdgeBoundaryTest {
    private static List<Call> wrongGraph() {
        List<Call> calls = new ArrayList<>();
        for (int graph : Call.WRONG_GRAPHS) {
            for (boolean there : new boolean[] {true, false}) {
                calls.add(Call.edge(graph, 0, 1, there));
                calls.add(Call.edge(graph, 5, 4, there));
            }
        }
        return calls;
    }

    private static List<Call> wrongVertex(int wrong) {
        List<Call> calls = new ArrayList<>();
        for (int graph = 0; graph < 2; graph++) {
            for (boolean there : new boolean[] {true, false}) {
                for (int v = 0; v < 6; v++) {
                    calls.add(Call.edge(graph, wrong, v, there));
                    calls.add(Call.edge(graph, v, wrong, there));
                }
                // Both wrong, and different from one another.
                calls.add(Call.edge(graph, wrong, 9, there));
                calls.add(Call.edge(graph, -9, wrong, there));
            }
        }
        return calls;
    }

    private static List<Call> sameVertex() {
        List<Call> calls = new ArrayList<>();
        for (int graph = 0; graph < 2; graph++) {
            for (int v = 0; v < 6; v++) {
                calls.add(Call.edge(graph, v, v, true));
                calls.add(Call.edge(graph, v, v, false));
            }
        }
        return calls;
    }

    private static int pair(int u, int v) {
        int[] highestOf = {14, 9, 5, 2, 0};
        int low = Math.min(u, v);
        int high = Math.max(u, v);
        return 1 << highestOf[low] - (high - low - 1);
    }

    private interface Pair {
        void of(State state, int graph, int u, int v);
    }

    private static void everyPair(Pair test) {
        for (State state : State.ALL) {
            for (int graph = 0; graph < 2; graph++) {
                for (int u = 0; u < 6; u++) {
                    for (int v = 0; v < 6; v++) {
                        if (u != v) {
                            test.of(state, graph, u, v);
                        }
                    }
                }
            }
        }
    }

    private static State with(State state, int graph, int code) {
        return graph == 0 ? new State(code, state.code1()) : new State(state.code0(), code);
    }

    private static void setsAnEdge() {
        everyPair((state, graph, u, v) -> {
            GraphCanon x = state.make();
            State due = with(state, graph, state.code(graph) | pair(u, v));
            String call = "edge(" + graph + ", " + u + ", " + v + ", true)";
            x.edge(graph, u, v, true);
            due.codesDueIn(x, call);
            x.edge(graph, u, v, true);
            due.codesDueIn(x, call + " again");
            x.edge(graph, v, u, true);
            due.codesDueIn(x, call + " from the other end");
        });
    }

    private static void takesAnEdgeAway() {
        everyPair((state, graph, u, v) -> {
            GraphCanon x = state.make();
            State due = with(state, graph, state.code(graph) & ~pair(u, v));
            String call = "edge(" + graph + ", " + u + ", " + v + ", false)";
            x.edge(graph, u, v, false);
            due.codesDueIn(x, call);
            x.edge(graph, u, v, false);
            due.codesDueIn(x, call + " again");
            x.edge(graph, v, u, false);
            due.codesDueIn(x, call + " from the other end");
        });
    }

    private static void fromNoneToAllAndBack() {
        for (int graph = 0; graph < 2; graph++) {
            GraphCanon x = new GraphCanon();
            int code = 0;
            for (int u = 0; u < 6; u++) {
                for (int v = u + 1; v < 6; v++) {
                    x.edge(graph, v, u, true);
                    code += pair(u, v);
                    Check.due("edges set up to " + u + v, x.code(graph), code);
                }
            }
            Check.due("all fifteen edges", x.code(graph), State.ALL_EDGES);
            for (int u = 0; u < 6; u++) {
                for (int v = u + 1; v < 6; v++) {
                    x.edge(graph, u, v, false);
                    code -= pair(u, v);
                    Check.due("edges taken away up to " + u + v, x.code(graph), code);
                }
            }
            Check.due("no edge left", x.code(graph), 0);
        }
    }

    private static void answersWhetherItWasThere() {
        everyPair((state, graph, u, v) -> {
            String call = "edge(" + graph + ", " + u + ", " + v + ") ";
            int before = (state.code(graph) & pair(u, v)) == 0 ? 0 : 1;
            Check.due(call + "set", state.make().edge(graph, u, v, true), before);
            Check.due(call + "taken away", state.make().edge(graph, u, v, false), before);
            GraphCanon x = state.make();
            x.edge(graph, u, v, true);
            Check.due(call + "set when set", x.edge(graph, u, v, true), 1);
            Check.due(call + "taken away when set", x.edge(graph, v, u, false), 1);
            Check.due(call + "taken away when not set", x.edge(graph, u, v, false), 0);
            Check.due(call + "set when not set", x.edge(graph, v, u, true), 0);
        });
    }

    private static void answersAfterOtherChanges() {
        GraphCanon x = new GraphCanon();
        x.edge(0, 0, 1, true);
        x.exchange(0, 1, 5);
        Check.due("edge 0-1 after exchange", x.edge(0, 0, 1, false), 0);
        Check.due("edge 0-5 after exchange", x.edge(0, 0, 5, true), 1);
        x.copy();
        Check.due("edge 5-0 after copy", x.edge(1, 5, 0, true), 1);
        x.complement(1);
        Check.due("edge 5-0 after complement", x.edge(1, 5, 0, false), 0);
        Check.due("edge 4-5 after complement", x.edge(1, 4, 5, true), 1);
        Check.due("edge 5-0 of the graph not complemented", x.edge(0, 5, 0, true), 1);
    }

    // A refused call is no half of one: the next right one answers as if it had not been.
    private static void answersAfterARefusedCall() {
        GraphCanon x = new GraphCanon();
        x.edge(2, 0, 1, true);
        x.edge(0, 0, 6, true);
        x.edge(0, 0, 0, true);
        Check.due("edge 0-1 after refused ones", x.edge(0, 0, 1, true), 0);
        x.edge(-1, 0, 1, false);
        x.edge(0, -1, 1, false);
        x.edge(0, 1, 1, false);
        Check.due("edge 1-0 after refused ones", x.edge(0, 1, 0, true), 1);
    }

    public static void main(String[] args) {
        String p = "promise 2";
        Check.sentence(p, "Sets an edge ..", EdgeBoundaryTest::setsAnEdge);
        Check.sentence(p, ".. or takes it away.", EdgeBoundaryTest::takesAnEdgeAway);
        Check.sentence(p, "Sets an edge or takes it away: from none to all fifteen and back",
                EdgeBoundaryTest::fromNoneToAllAndBack);
        Check.sentence(p, "graph not 0 or 1: BAD_GRAPH", () -> Call.answer(wrongGraph(), -1));
        Check.sentence(p, "graph not 0 or 1: nothing changes then", () -> Call.changeNothing(wrongGraph()));
        for (int wrong : Call.WRONG_VERTICES) {
            Check.sentence(p, "u or v not in 0 to 5: BAD_VERTEX, at " + wrong,
                    () -> Call.answer(wrongVertex(wrong), -2));
            Check.sentence(p, "u or v not in 0 to 5: nothing changes then, at " + wrong,
                    () -> Call.changeNothing(wrongVertex(wrong)));
        }
        Check.sentence(p, "or u == v: BAD_VERTEX", () -> Call.answer(sameVertex(), -2));
        Check.sentence(p, "or u == v: nothing changes then", () -> Call.changeNothing(sameVertex()));
        Check.sentence(p, "Else answers 1 if it was there before, 0 if not",
                EdgeBoundaryTest::answersWhetherItWasThere);
        Check.sentence(p, "Else answers 1 if it was there before, 0 if not: after other changes",
                EdgeBoundaryTest::answersAfterOtherChanges);
        Check.sentence(p, "Else answers 1 if it was there before, 0 if not: after refused calls",
                EdgeBoundaryTest::answersAfterARefusedCall);
        Check.end();
    }
}
