import java.util.ArrayList;
import java.util.List;

/** The order of the tests (promise 15), and the sentence ahead of the calls that ask. */
public final class OrderBoundaryTest {
    private static List<Call> edgeGraphFirst() {
        List<Call> calls = new ArrayList<>();
        for (int graph : Call.WRONG_GRAPHS) {
            for (int wrong : Call.WRONG_VERTICES) {
                calls.add(Call.edge(graph, wrong, 0, true));
                calls.add(Call.edge(graph, 5, wrong, false));
                calls.add(Call.edge(graph, wrong, wrong, true));
            }
            calls.add(Call.edge(graph, 0, 0, true));
            calls.add(Call.edge(graph, 5, 5, false));
        }
        return calls;
    }

    private static List<Call> edgeVertexNext() {
        List<Call> calls = new ArrayList<>();
        for (int graph = 0; graph < 2; graph++) {
            for (int wrong : Call.WRONG_VERTICES) {
                calls.add(Call.edge(graph, wrong, wrong, true));
                calls.add(Call.edge(graph, wrong, wrong, false));
            }
        }
        return calls;
    }

    private static List<Call> colourGraphFirst() {
        List<Call> calls = new ArrayList<>();
        for (int graph : Call.WRONG_GRAPHS) {
            for (int wrong : Call.WRONG_VERTICES) {
                calls.add(Call.colour(graph, wrong, 0));
                calls.add(Call.colour(graph, wrong, 4));
                calls.add(Call.colour(graph, wrong, -1));
            }
            for (int wrong : Call.WRONG_COLOURS) {
                calls.add(Call.colour(graph, 0, wrong));
            }
        }
        return calls;
    }

    private static List<Call> colourVertexNext() {
        List<Call> calls = new ArrayList<>();
        for (int graph = 0; graph < 2; graph++) {
            for (int wrongVertex : Call.WRONG_VERTICES) {
                for (int wrongColour : Call.WRONG_COLOURS) {
                    calls.add(Call.colour(graph, wrongVertex, wrongColour));
                }
            }
        }
        return calls;
    }

    private static List<Call> exchangeGraphFirst() {
        List<Call> calls = new ArrayList<>();
        for (int graph : Call.WRONG_GRAPHS) {
            for (int wrong : Call.WRONG_VERTICES) {
                calls.add(Call.exchange(graph, wrong, 0));
                calls.add(Call.exchange(graph, 5, wrong));
                calls.add(Call.exchange(graph, wrong, wrong));
            }
        }
        return calls;
    }

    private static List<Call> askingOfWrongGraph() {
        List<Call> calls = new ArrayList<>();
        for (int graph : Call.WRONG_GRAPHS) {
            calls.addAll(Call.asking(graph));
            calls.add(Call.orbit(graph, 0));
            calls.add(Call.orbit(graph, 5));
        }
        return calls;
    }

    private static List<Call> orbitGraphFirst() {
        List<Call> calls = new ArrayList<>();
        for (int graph : Call.WRONG_GRAPHS) {
            for (int wrong : Call.WRONG_VERTICES) {
                calls.add(Call.orbit(graph, wrong));
            }
        }
        return calls;
    }

    private static List<Call> askingRightly() {
        List<Call> calls = new ArrayList<>();
        for (int graph = 0; graph < 2; graph++) {
            calls.addAll(Call.asking(graph));
            for (int v = 0; v < 6; v++) {
                calls.add(Call.orbit(graph, v));
            }
        }
        calls.add(Call.alike());
        calls.add(Call.alikeWithoutColours());
        return calls;
    }

    // Asked twice, and in between everything else is asked: the same answer.
    private static void sameAnswerAgain() {
        for (State state : State.ALL) {
            GraphCanon x = state.make();
            for (Call call : askingRightly()) {
                int first = call.made().applyAsInt(x);
                Check.due(call.text() + " again", call.made().applyAsInt(x), first);
            }
            state.dueIn(x, "asking for everything twice");
        }
    }

    public static void main(String[] args) {
        String p = "promise 15";
        String order = "the tests are made in the order in which they are named";
        Check.sentence(p, "edge: " + order + ": BAD_GRAPH", () -> Call.answer(edgeGraphFirst(), -1));
        Check.sentence(p, "edge: " + order + ": BAD_VERTEX", () -> Call.answer(edgeVertexNext(), -2));
        Check.sentence(p, "edge: two things wrong, and nothing changes then", () -> {
            Call.changeNothing(edgeGraphFirst());
            Call.changeNothing(edgeVertexNext());
        });
        Check.sentence(p, "colour: " + order + ": BAD_GRAPH", () -> Call.answer(colourGraphFirst(), -1));
        Check.sentence(p, "colour: " + order + ": BAD_VERTEX", () -> Call.answer(colourVertexNext(), -2));
        Check.sentence(p, "colour: two things wrong, and nothing changes then", () -> {
            Call.changeNothing(colourGraphFirst());
            Call.changeNothing(colourVertexNext());
        });
        Check.sentence(p, "exchange: " + order + ": BAD_GRAPH", () -> Call.answer(exchangeGraphFirst(), -1));
        Check.sentence(p, "exchange: two things wrong, and nothing changes then",
                () -> Call.changeNothing(exchangeGraphFirst()));
        String ahead = "ahead of the calls that ask";
        Check.sentence(ahead, "BAD_GRAPH", () -> Call.answer(askingOfWrongGraph(), -1));
        Check.sentence(ahead, "BAD_GRAPH first", () -> Call.answer(orbitGraphFirst(), -1));
        Check.sentence(ahead, "The calls below change nothing: refused ones", () -> {
            Call.changeNothing(askingOfWrongGraph());
            Call.changeNothing(orbitGraphFirst());
        });
        Check.sentence(ahead, "The calls below change nothing", () -> Call.changeNothing(askingRightly()));
        Check.sentence(ahead, "The calls below change nothing: the next answer neither",
                OrderBoundaryTest::sameAnswerAgain);
        Check.end();
    }
}
