import java.util.ArrayList;
import java.util.List;

/** Promises 9 to 12, sentence by sentence. */
public final class SymmetryBoundaryTest {
    private static final int COLOURS_ONLY = State.ALL_BITS - State.ALL_EDGES;

    /** A graph whose symmetries, orbits and variants are worked out by hand. */
    private record Known(String name, int code, int symmetries, int[] orbit, int orbits, int variants) {
    }

    private static int edge(int u, int v) {
        int[] highestOf = {14, 9, 5, 2, 0};
        return 1 << highestOf[u] - (v - u - 1);
    }

    private static int colour(int v, int colour) {
        return colour << 25 - 2 * v;
    }

    private static final int PATH = edge(0, 1) | edge(1, 2) | edge(2, 3) | edge(3, 4) | edge(4, 5);
    private static final int RING = PATH | edge(0, 5);
    private static final int STAR = edge(0, 1) | edge(0, 2) | edge(0, 3) | edge(0, 4) | edge(0, 5);
    private static final int TWO_TRIANGLES =
            edge(0, 2) | edge(2, 4) | edge(0, 4) | edge(1, 3) | edge(3, 5) | edge(1, 5);

    private static final int[] EACH_ALONE = {1, 2, 4, 8, 16, 32};
    private static final int[] ALL_TOGETHER = {63, 63, 63, 63, 63, 63};

    private static final List<Known> KNOWN = List.of(
            new Known("no edges", 0, 720, ALL_TOGETHER, 1, 1),
            new Known("all fifteen edges", State.ALL_EDGES, 720, ALL_TOGETHER, 1, 1),
            new Known("no edges, colour 3 all over", COLOURS_ONLY, 720, ALL_TOGETHER, 1, 1),
            new Known("all bits", State.ALL_BITS, 720, ALL_TOGETHER, 1, 1),
            new Known("lopsided", State.LOPSIDED.code0(), 1, EACH_ALONE, 6, 720),
            new Known("lopsided with colours", State.LOPSIDED.code1(), 1, EACH_ALONE, 6, 720),
            new Known("path", PATH, 2, new int[] {33, 18, 12, 12, 18, 33}, 3, 360),
            new Known("path, first vertex coloured", PATH | colour(0, 1), 1, EACH_ALONE, 6, 720),
            new Known("path, last vertex coloured", PATH | colour(5, 3), 1, EACH_ALONE, 6, 720),
            new Known("path, both ends coloured", PATH | colour(0, 2) | colour(5, 2),
                    2, new int[] {33, 18, 12, 12, 18, 33}, 3, 360),
            new Known("path, ends of two colours", PATH | colour(0, 2) | colour(5, 1), 1, EACH_ALONE, 6, 720),
            new Known("ring", RING, 12, ALL_TOGETHER, 1, 60),
            // Only turns of the ring are left, no turning over: 0, 2, 4 and 1, 3, 5 by steps of two.
            new Known("ring, every other vertex coloured", RING | colour(0, 1) | colour(2, 1) | colour(4, 1),
                    6, new int[] {21, 42, 21, 42, 21, 42}, 2, 120),
            new Known("star", STAR, 120, new int[] {1, 62, 62, 62, 62, 62}, 2, 6),
            new Known("two triangles", TWO_TRIANGLES, 72, ALL_TOGETHER, 1, 10),
            new Known("two triangles of two colours", TWO_TRIANGLES | colour(1, 3) | colour(3, 3) | colour(5, 3),
                    36, new int[] {21, 42, 21, 42, 21, 42}, 2, 20),
            new Known("first edge", edge(0, 1), 48, new int[] {3, 3, 60, 60, 60, 60}, 2, 15),
            new Known("last edge", edge(4, 5), 48, new int[] {15, 15, 15, 15, 48, 48}, 2, 15),
            new Known("all but the last edge", State.ALL_EDGES - edge(4, 5),
                    48, new int[] {15, 15, 15, 15, 48, 48}, 2, 15),
            new Known("vertex 5 coloured", colour(5, 1), 120, new int[] {31, 31, 31, 31, 31, 32}, 2, 6),
            new Known("vertex 0 coloured", colour(0, 2), 120, new int[] {1, 62, 62, 62, 62, 62}, 2, 6),
            new Known("four colours", colour(1, 1) | colour(2, 2) | colour(3, 3),
                    6, new int[] {49, 2, 4, 8, 49, 49}, 4, 120),
            new Known("four colours and an edge", colour(1, 1) | colour(2, 2) | colour(3, 3) | edge(0, 1),
                    2, new int[] {1, 2, 4, 8, 48, 48}, 5, 360));

    private interface Look {
        void at(Known known, GraphCanon x, int graph);
    }

    // The other graph is as different as can be, so that looking at the wrong one shows.
    private static void everyKnown(Look look) {
        for (Known known : KNOWN) {
            int other = known.symmetries == 720 ? State.LOPSIDED.code1() : 0;
            look.at(known, new State(known.code, other).make(), 0);
            look.at(known, new State(other, known.code).make(), 1);
        }
    }

    private static void symmetries() {
        everyKnown((known, x, graph) ->
                Check.due("symmetries of " + known.name, x.symmetries(graph), known.symmetries));
    }

    private static void orbit() {
        everyKnown((known, x, graph) -> {
            for (int v = 0; v < 6; v++) {
                Check.due("orbit of " + v + " in " + known.name, x.orbit(graph, v), known.orbit[v]);
            }
        });
    }

    private static void itselfCountedIn() {
        everyKnown((known, x, graph) -> {
            for (int v = 0; v < 6; v++) {
                Check.due("vertex " + v + " in its orbit in " + known.name, x.orbit(graph, v) >> v & 1, 1);
            }
        });
    }

    private static void orbits() {
        everyKnown((known, x, graph) -> Check.due("orbits of " + known.name, x.orbits(graph), known.orbits));
    }

    private static void variants() {
        everyKnown((known, x, graph) -> Check.due("variants of " + known.name, x.variants(graph), known.variants));
    }

    private static List<Call> orbitOfWrongVertex() {
        List<Call> calls = new ArrayList<>();
        for (int wrong : Call.WRONG_VERTICES) {
            calls.add(Call.orbit(0, wrong));
            calls.add(Call.orbit(1, wrong));
        }
        return calls;
    }

    public static void main(String[] args) {
        Check.sentence("promise 9", "How many of the 720 renumberings carry the graph over into itself",
                SymmetryBoundaryTest::symmetries);
        Check.sentence("promise 10", "The vertices that symmetries of the graph carry v to, as a mask",
                SymmetryBoundaryTest::orbit);
        Check.sentence("promise 10", "v itself counted in", SymmetryBoundaryTest::itselfCountedIn);
        Check.sentence("promise 10", "BAD_VERTEX", () -> Call.answer(orbitOfWrongVertex(), -2));
        Check.sentence("promise 10", "BAD_VERTEX: and nothing has changed",
                () -> Call.changeNothing(orbitOfWrongVertex()));
        Check.sentence("promise 11", "How many different orbits the graph has", SymmetryBoundaryTest::orbits);
        Check.sentence("promise 12", "How many different graphs come of the graph by renumbering",
                SymmetryBoundaryTest::variants);
        Check.end();
    }
}
