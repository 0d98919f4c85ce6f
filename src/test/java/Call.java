import java.util.List;
import java.util.function.ToIntFunction;

/** One call, to be made on objects in many states; and the arguments that are wrong in one. */
record Call(String text, ToIntFunction<GraphCanon> made) {
    // Just below, just above, at both ends of the ints, and what would pass if bits were cut off.
    static final int[] WRONG_GRAPHS = {
        -1, 2, 3, 4, -2, 16, 32, 33, 256, 1 << 16, 1 << 30,
        Integer.MAX_VALUE, Integer.MAX_VALUE - 1, Integer.MIN_VALUE, Integer.MIN_VALUE + 1};
    static final int[] WRONG_VERTICES = {
        -1, 6, 7, 8, -6, 16, 32, 33, 256, 1 << 16, 1 << 30,
        Integer.MAX_VALUE, Integer.MAX_VALUE - 1, Integer.MIN_VALUE, Integer.MIN_VALUE + 1};
    static final int[] WRONG_COLOURS = {
        -1, 4, 5, 7, 8, -4, 32, 33, 256, 1 << 16, 1 << 30,
        Integer.MAX_VALUE, Integer.MAX_VALUE - 1, Integer.MIN_VALUE, Integer.MIN_VALUE + 1};

    // The calls, the makings of the state and the looks at it together stay below an object's 512.
    private static final int CALLS_ON_ONE_OBJECT = 120;

    static Call edge(int graph, int u, int v, boolean there) {
        return new Call("edge(" + graph + ", " + u + ", " + v + ", " + there + ")", x -> x.edge(graph, u, v, there));
    }

    static Call colour(int graph, int v, int colour) {
        return new Call("colour(" + graph + ", " + v + ", " + colour + ")", x -> x.colour(graph, v, colour));
    }

    static Call exchange(int graph, int u, int v) {
        return new Call("exchange(" + graph + ", " + u + ", " + v + ")", x -> x.exchange(graph, u, v));
    }

    static Call complement(int graph) {
        return new Call("complement(" + graph + ")", x -> x.complement(graph));
    }

    static Call orbit(int graph, int v) {
        return new Call("orbit(" + graph + ", " + v + ")", x -> x.orbit(graph, v));
    }

    /** The calls that ask for a number and take a graph alone. */
    static List<Call> asking(int graph) {
        String at = "(" + graph + ")";
        return List.of(
                new Call("code" + at, x -> x.code(graph)),
                new Call("canonical" + at, x -> x.canonical(graph)),
                new Call("symmetries" + at, x -> x.symmetries(graph)),
                new Call("orbits" + at, x -> x.orbits(graph)),
                new Call("variants" + at, x -> x.variants(graph)));
    }

    static Call alike() {
        return new Call("alike()", x -> x.alike() ? 1 : 0);
    }

    static Call alikeWithoutColours() {
        return new Call("alikeWithoutColours()", x -> x.alikeWithoutColours() ? 1 : 0);
    }

    /** Each call on an object of its own, so that no answer hangs on what an earlier call did. */
    static void answer(List<Call> calls, int due) {
        for (State state : State.ALL) {
            for (Call call : calls) {
                Check.due(call.text, call.made.applyAsInt(state.make()), due);
            }
        }
    }

    static void changeNothing(List<Call> calls) {
        for (State state : State.ALL) {
            changeNothingFrom(state, calls);
        }
    }

    static void changeNothingFrom(State state, List<Call> calls) {
        for (int from = 0; from < calls.size(); from += CALLS_ON_ONE_OBJECT) {
            int to = Math.min(from + CALLS_ON_ONE_OBJECT, calls.size());
            changeNothingOnOneObject(state, calls.subList(from, to));
        }
    }

    private static void changeNothingOnOneObject(State state, List<Call> calls) {
        GraphCanon x = state.make();
        for (Call call : calls) {
            call.made.applyAsInt(x);
            state.codesDueIn(x, call.text);
        }
        state.dueIn(x, calls.get(0).text + " and those after it");
    }
}
