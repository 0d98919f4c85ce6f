import java.util.ArrayList;
import java.util.List;

/** Promise 3, sentence by sentence. */
public final class ColourBoundaryTest {
    private static List<Call> wrongGraph() {
        List<Call> calls = new ArrayList<>();
        for (int graph : Call.WRONG_GRAPHS) {
            for (int colour = 0; colour < 4; colour++) {
                calls.add(Call.colour(graph, 0, colour));
                calls.add(Call.colour(graph, 5, colour));
            }
        }
        return calls;
    }

    private static List<Call> wrongVertex() {
        List<Call> calls = new ArrayList<>();
        for (int wrong : Call.WRONG_VERTICES) {
            for (int graph = 0; graph < 2; graph++) {
                for (int colour = 0; colour < 4; colour++) {
                    calls.add(Call.colour(graph, wrong, colour));
                }
            }
        }
        return calls;
    }

    private static List<Call> wrongColour() {
        List<Call> calls = new ArrayList<>();
        for (int wrong : Call.WRONG_COLOURS) {
            for (int graph = 0; graph < 2; graph++) {
                for (int v = 0; v < 6; v++) {
                    calls.add(Call.colour(graph, v, wrong));
                }
            }
        }
        return calls;
    }

    private interface Colouring {
        void of(State state, int graph, int v, int colour);
    }

    private static void everyColour(Colouring test) {
        for (State state : State.ALL) {
            for (int graph = 0; graph < 2; graph++) {
                for (int v = 0; v < 6; v++) {
                    for (int colour = 0; colour < 4; colour++) {
                        test.of(state, graph, v, colour);
                    }
                }
            }
        }
    }

    private static void setsAVertexsColour() {
        everyColour((state, graph, v, colour) -> {
            int lowest = 25 - 2 * v;
            int code = state.code(graph) & ~(3 << lowest) | colour << lowest;
            State due = graph == 0 ? new State(code, state.code1()) : new State(state.code0(), code);
            String call = "colour(" + graph + ", " + v + ", " + colour + ")";
            GraphCanon x = state.make();
            x.colour(graph, v, colour);
            due.codesDueIn(x, call);
            x.colour(graph, v, colour);
            due.codesDueIn(x, call + " again");
        });
    }

    private static void answersTheOldOne() {
        everyColour((state, graph, v, colour) -> {
            String call = "colour(" + graph + ", " + v + ", ";
            GraphCanon x = state.make();
            int old = State.colourIn(state.code(graph), v);
            Check.due(call + colour + ")", x.colour(graph, v, colour), old);
            Check.due(call + colour + ") again", x.colour(graph, v, colour), colour);
            old = colour;
            for (int next : new int[] {3, 0, 2, 1, 3, 2, 0}) {
                Check.due(call + next + ") after " + old, x.colour(graph, v, next), old);
                old = next;
            }
        });
    }

    private static void answersAfterOtherChanges() {
        GraphCanon x = new GraphCanon();
        x.colour(0, 0, 3);
        x.exchange(0, 0, 5);
        Check.due("colour of 0 after exchange", x.colour(0, 0, 0), 0);
        Check.due("colour of 5 after exchange", x.colour(0, 5, 3), 3);
        x.copy();
        x.complement(1);
        Check.due("colour of 5 after copy and complement", x.colour(1, 5, 1), 3);
        Check.due("colour of 5 in graph 0", x.colour(0, 5, 2), 3);
        Check.due("colour of 5 in graph 1", x.colour(1, 5, 0), 1);
    }

    private static void answersAfterARefusedCall() {
        GraphCanon x = new GraphCanon();
        x.colour(0, 5, 2);
        x.colour(2, 5, 1);
        x.colour(0, 6, 1);
        x.colour(0, 5, 4);
        x.colour(0, 5, -1);
        Check.due("colour of 5 after refused calls", x.colour(0, 5, 0), 2);
    }

    public static void main(String[] args) {
        String p = "promise 3";
        Check.sentence(p, "Sets a vertex's colour", ColourBoundaryTest::setsAVertexsColour);
        Check.sentence(p, "BAD_GRAPH", () -> Call.answer(wrongGraph(), -1));
        Check.sentence(p, "BAD_GRAPH: nothing changes then", () -> Call.changeNothing(wrongGraph()));
        Check.sentence(p, "v not in 0 to 5: BAD_VERTEX", () -> Call.answer(wrongVertex(), -2));
        Check.sentence(p, "v not in 0 to 5: nothing changes then", () -> Call.changeNothing(wrongVertex()));
        Check.sentence(p, "colour not in 0 to 3: BAD_COLOUR", () -> Call.answer(wrongColour(), -3));
        Check.sentence(p, "colour not in 0 to 3: nothing changes then", () -> Call.changeNothing(wrongColour()));
        Check.sentence(p, "Else answers the old one", ColourBoundaryTest::answersTheOldOne);
        Check.sentence(p, "Else answers the old one: after other changes",
                ColourBoundaryTest::answersAfterOtherChanges);
        Check.sentence(p, "Else answers the old one: after refused calls",
                ColourBoundaryTest::answersAfterARefusedCall);
        Check.end();
    }
}
