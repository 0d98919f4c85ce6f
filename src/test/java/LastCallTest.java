import java.util.ArrayList;
import java.util.List;
import java.util.function.ToIntFunction;

/** "An object is used for at most 512 calls after it has been made": the 512th is still one of them. */
public final class LastCallTest {
    private static final int LAST = 512;

    /** One of the calls before the last one, made on both. */
    private interface Before {
        void call(GraphCanon x, Model m, int number);
    }

    private static void due(int number, String call, int got, int want) {
        Check.due("call " + number + ", " + call, got, want);
    }

    private static void changing(GraphCanon x, Model m, int number) {
        int graph = number % 2;
        int u = number % 6;
        int v = (number / 3 + 1) % 6;
        boolean there = number % 3 != 0;
        switch (number % 6) {
            case 0, 1 -> due(number, "edge", x.edge(graph, u, v, there), m.edge(graph, u, v, there));
            case 2 -> due(number, "colour", x.colour(graph, u, v % 4), m.colour(graph, u, v % 4));
            case 3 -> due(number, "exchange", x.exchange(graph, u, v), m.exchange(graph, u, v));
            case 4 -> due(number, "complement", x.complement(graph), m.complement(graph));
            default -> {
                if (number % 4 == 1) {
                    x.copy();
                    m.copy();
                } else {
                    due(number, "colour", x.colour(graph, v, u % 4), m.colour(graph, v, u % 4));
                }
            }
        }
    }

    // The graphs stay new: what is due is told without the model, which is slow.
    private static void asking(GraphCanon x, Model m, int number) {
        int[] due = {0, 0, 720, 1, 1};
        int kind = number % due.length;
        Call call = Call.asking(number % 2).get(kind);
        due(number, call.text(), call.made().applyAsInt(x), due[kind]);
    }

    private static void refused(GraphCanon x, Model m, int number) {
        int graph = number % 2;
        switch (number % 5) {
            case 0 -> due(number, "edge", x.edge(graph, number % 6, number % 6, true), -2);
            case 1 -> due(number, "colour", x.colour(graph, 0, 4 + number), -3);
            case 2 -> due(number, "exchange", x.exchange(graph, 0, 6 + number), -2);
            case 3 -> due(number, "complement", x.complement(-number), -1);
            default -> due(number, "orbit", x.orbit(graph, -number), -2);
        }
    }

    private record Last(Call call, ToIntFunction<Model> model) {
    }

    private static List<Last> lastCalls(int graph) {
        List<Call> asking = Call.asking(graph);
        return List.of(
                new Last(Call.edge(graph, 0, 5, true), m -> m.edge(graph, 0, 5, true)),
                new Last(Call.edge(graph, 4, 1, false), m -> m.edge(graph, 4, 1, false)),
                new Last(Call.edge(graph, 1, 1, true), m -> m.edge(graph, 1, 1, true)),
                new Last(Call.colour(graph, 5, 3), m -> m.colour(graph, 5, 3)),
                new Last(Call.colour(graph, 5, 4), m -> m.colour(graph, 5, 4)),
                new Last(Call.exchange(graph, 0, 5), m -> m.exchange(graph, 0, 5)),
                new Last(Call.exchange(graph, 6, 5), m -> m.exchange(graph, 6, 5)),
                new Last(Call.complement(graph), m -> m.complement(graph)),
                new Last(Call.complement(graph + 2), m -> m.complement(graph + 2)),
                new Last(asking.get(0), m -> m.code(graph)),
                new Last(asking.get(1), m -> m.canonical(graph)),
                new Last(asking.get(2), m -> m.symmetries(graph)),
                new Last(asking.get(3), m -> m.orbits(graph)),
                new Last(asking.get(4), m -> m.variants(graph)),
                new Last(Call.orbit(graph, 3), m -> m.orbit(graph, 3)),
                new Last(Call.orbit(graph, 6), m -> m.orbit(graph, 6)),
                new Last(Call.alike(), m -> m.alike() ? 1 : 0),
                new Last(Call.alikeWithoutColours(), m -> m.alikeWithoutColours() ? 1 : 0));
    }

    private static void lastAfter(Before before) {
        List<Last> calls = new ArrayList<>(lastCalls(0));
        calls.addAll(lastCalls(1));
        for (Last last : calls) {
            GraphCanon x = new GraphCanon();
            Model m = new Model();
            for (int number = 1; number < LAST; number++) {
                before.call(x, m, number);
            }
            due(LAST, last.call.text(), last.call.made().applyAsInt(x), last.model.applyAsInt(m));
        }
    }

    private static GraphCanon withCallsMade(int calls) {
        GraphCanon x = new GraphCanon();
        x.edge(0, 0, 1, true);
        for (int number = 2; number <= calls; number++) {
            due(number, "code(0)", x.code(0), 1 << 14);
        }
        return x;
    }

    // What the last call but one changes is there at the last.
    private static void lastChange() {
        GraphCanon x = withCallsMade(LAST - 2);
        x.edge(0, 4, 5, true);
        due(LAST, "code(0) after edge", x.code(0), 1 << 14 | 1);
        x = withCallsMade(LAST - 2);
        x.colour(0, 0, 3);
        due(LAST, "code(0) after colour", x.code(0), 3 << 25 | 1 << 14);
        x = withCallsMade(LAST - 2);
        x.exchange(0, 0, 5);
        due(LAST, "code(0) after exchange", x.code(0), 1 << 6);
        x = withCallsMade(LAST - 2);
        x.complement(0);
        due(LAST, "code(0) after complement", x.code(0), State.ALL_EDGES - (1 << 14));
        x = withCallsMade(LAST - 2);
        x.copy();
        due(LAST, "code(1) after copy", x.code(1), 1 << 14);
        x = withCallsMade(LAST - 2);
        x.edge(0, 2, 2, true);
        due(LAST, "code(0) after a refused call", x.code(0), 1 << 14);
    }

    public static void main(String[] args) {
        String p = "what it is, and promise 15";
        String words = "An object is used for at most 512 calls: the 512th after 511 calls that ";
        Check.sentence(p, words + "change", () -> lastAfter(LastCallTest::changing));
        Check.sentence(p, words + "ask", () -> lastAfter(LastCallTest::asking));
        Check.sentence(p, words + "are refused", () -> lastAfter(LastCallTest::refused));
        Check.sentence(p, "An object is used for at most 512 calls: the 512th sees what the 511th changed",
                LastCallTest::lastChange);
        Check.end();
    }
}
