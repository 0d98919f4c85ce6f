import java.util.ArrayList;
import java.util.List;

/** Promise 4, sentence by sentence. */
public final class ExchangeBoundaryTest {
    private static List<Call> wrongGraph() {
        List<Call> calls = new ArrayList<>();
        for (int graph : Call.WRONG_GRAPHS) {
            calls.add(Call.exchange(graph, 0, 5));
            calls.add(Call.exchange(graph, 5, 0));
            calls.add(Call.exchange(graph, 1, 2));
            calls.add(Call.exchange(graph, 3, 3));
        }
        return calls;
    }

    private static List<Call> wrongVertex(int wrong) {
        List<Call> calls = new ArrayList<>();
        for (int graph = 0; graph < 2; graph++) {
            for (int v = 0; v < 6; v++) {
                calls.add(Call.exchange(graph, wrong, v));
                calls.add(Call.exchange(graph, v, wrong));
            }
            calls.add(Call.exchange(graph, wrong, 9));
            calls.add(Call.exchange(graph, -9, wrong));
        }
        return calls;
    }

    private static List<Call> wrongVertexTwice() {
        List<Call> calls = new ArrayList<>();
        for (int wrong : Call.WRONG_VERTICES) {
            calls.add(Call.exchange(0, wrong, wrong));
            calls.add(Call.exchange(1, wrong, wrong));
        }
        return calls;
    }

    private static List<Call> sameVertex() {
        List<Call> calls = new ArrayList<>();
        for (int v = 0; v < 6; v++) {
            calls.add(Call.exchange(0, v, v));
            calls.add(Call.exchange(1, v, v));
        }
        return calls;
    }

    private static List<Call> allRight() {
        List<Call> calls = new ArrayList<>();
        for (int graph = 0; graph < 2; graph++) {
            for (int u = 0; u < 6; u++) {
                for (int v = 0; v < 6; v++) {
                    calls.add(Call.exchange(graph, u, v));
                }
            }
        }
        return calls;
    }

    private static void exchangeTheirNumbers() {
        for (State state : State.ALL) {
            for (int graph = 0; graph < 2; graph++) {
                for (int u = 0; u < 6; u++) {
                    for (int v = 0; v < 6; v++) {
                        exchangedAndBack(state, graph, u, v);
                    }
                }
            }
        }
    }

    private static void exchangedAndBack(State state, int graph, int u, int v) {
        String call = "exchange(" + graph + ", " + u + ", " + v + ")";
        GraphCanon x = state.make();
        Model m = state.model();
        x.exchange(graph, u, v);
        m.exchange(graph, u, v);
        new State(m.code(0), m.code(1)).codesDueIn(x, call);
        x.exchange(graph, v, u);
        state.codesDueIn(x, call + " and back");
    }

    // Worked out by hand, so that it does not lean on the model.
    private static void firstAndLastVertex() {
        GraphCanon x = new GraphCanon();
        x.edge(0, 0, 1, true);
        x.colour(0, 0, 2);
        x.exchange(0, 0, 5);
        Check.due("code(0) after exchange(0, 0, 5)", x.code(0), 2 << 15 | 1 << 6);
        x.exchange(0, 5, 1);
        Check.due("code(0) after exchange(0, 5, 1)", x.code(0), 2 << 23 | 1 << 6);
    }

    private static void everyVertexIsLikeEveryOther() {
        for (State state : new State[] {State.EMPTY, State.FULL}) {
            Call.changeNothingFrom(state, allRight());
        }
    }

    public static void main(String[] args) {
        String p = "promise 4";
        Check.sentence(p, "vertices u and v exchange their numbers", ExchangeBoundaryTest::exchangeTheirNumbers);
        Check.sentence(p, "vertices u and v exchange their numbers: the first and the last",
                ExchangeBoundaryTest::firstAndLastVertex);
        Check.sentence(p, "vertices u and v exchange their numbers: no edges, or all fifteen",
                ExchangeBoundaryTest::everyVertexIsLikeEveryOther);
        Check.sentence(p, "BAD_GRAPH", () -> Call.answer(wrongGraph(), -1));
        Check.sentence(p, "BAD_GRAPH: nothing changes then", () -> Call.changeNothing(wrongGraph()));
        for (int wrong : Call.WRONG_VERTICES) {
            Check.sentence(p, "BAD_VERTEX, at " + wrong, () -> Call.answer(wrongVertex(wrong), -2));
            Check.sentence(p, "BAD_VERTEX: nothing changes then, at " + wrong,
                    () -> Call.changeNothing(wrongVertex(wrong)));
        }
        Check.sentence(p, "BAD_VERTEX: u == v is no way round it", () -> Call.answer(wrongVertexTwice(), -2));
        Check.sentence(p, "BAD_VERTEX: nothing changes then, u == v",
                () -> Call.changeNothing(wrongVertexTwice()));
        Check.sentence(p, "u == v is allowed", () -> Call.answer(sameVertex(), 0));
        Check.sentence(p, "u == v is allowed: a vertex that exchanges numbers with itself keeps its own",
                () -> Call.changeNothing(sameVertex()));
        Check.sentence(p, "Else answers 0", () -> Call.answer(allRight(), 0));
        Check.end();
    }
}
