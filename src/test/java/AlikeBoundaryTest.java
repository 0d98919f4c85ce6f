/** Promises 13 and 14, sentence by sentence. */
public final class AlikeBoundaryTest {
    private static final int COLOURS_ONLY = State.ALL_BITS - State.ALL_EDGES;
    private static final int RING = 1 << 14 | 1 << 9 | 1 << 5 | 1 << 2 | 1 | 1 << 10;
    private static final int TWO_TRIANGLES = 1 << 14 | 1 << 9 | 1 << 13 | 1 << 2 | 1 | 1 << 1;

    private static void alike(String what, int code0, int code1, boolean due) {
        Check.due(what + ": alike", new State(code0, code1).make().alike(), due);
        Check.due(what + ", changed about: alike", new State(code1, code0).make().alike(), due);
    }

    private static void bare(String what, int code0, int code1, boolean due) {
        Check.due(what + ": alikeWithoutColours", new State(code0, code1).make().alikeWithoutColours(), due);
        Check.due(what + ", changed about: alikeWithoutColours",
                new State(code1, code0).make().alikeWithoutColours(), due);
    }

    // Keeping all numbers is a renumbering too.
    private static void theSameGraphs() {
        for (State state : State.ALL) {
            alike("a graph and itself", state.code0(), state.code0(), true);
            alike("a graph and itself", state.code1(), state.code1(), true);
        }
    }

    private static void emptyAndFull() {
        alike("no edges and all", 0, State.ALL_EDGES, false);
        alike("nothing and all bits", 0, State.ALL_BITS, false);
        alike("colour 0 and colour 3 all over", 0, COLOURS_ONLY, false);
        alike("all edges, colour 0 and colour 3", State.ALL_EDGES, State.ALL_BITS, false);
    }

    private static void oneBitApart() {
        for (int bit = 0; bit < 27; bit++) {
            alike("nothing and bit " + bit, 0, 1 << bit, false);
            alike("all and all but bit " + bit, State.ALL_BITS, State.ALL_BITS - (1 << bit), false);
        }
        for (int bit = 0; bit < 15; bit++) {
            alike("the last edge and the one at bit " + bit, 1, 1 << bit, true);
        }
        for (int v = 0; v < 6; v++) {
            alike("colour 3 at 0 and at " + v, 3 << 25, 3 << 25 - 2 * v, true);
            alike("colour 2 at 0 and 3 at " + v, 2 << 25, 3 << 25 - 2 * v, false);
            alike("colour 1 at 0 and 2 at " + v, 1 << 25, 2 << 25 - 2 * v, false);
        }
    }

    private static void someRenumbering() {
        for (State state : State.ALL) {
            Model m = state.model();
            for (int[] renumbering : Model.RENUMBERINGS) {
                int code = m.codeUnder(0, renumbering);
                alike("a graph and its renumbering", state.code0(), code, true);
                alike("a graph and its renumbering", m.codeUnder(1, renumbering), state.code1(), true);
            }
        }
    }

    private static void exchanges() {
        for (State state : State.ALL) {
            GraphCanon x = state.make();
            x.copy();
            for (int step = 0; step < 60; step++) {
                x.exchange(step % 2, step % 6, (step * step + 1) % 6);
                Check.due("alike after " + step + " exchanges", x.alike(), true);
            }
        }
    }

    private static void sameCountsOnly() {
        alike("a ring and two triangles", RING, TWO_TRIANGLES, false);
        alike("two edges side by side and in a row", 1 << 14 | 1, 1 << 14 | 1 << 9, false);
        // An edge between the colours 1 and 2, and one from colour 1 to a vertex without.
        int colours = 1 << 17 | 2 << 15;
        alike("the same colours, the edge elsewhere", colours | 1, colours | 1 << 1, false);
        alike("the same edge, two colours changed about", 1 << 25 | 2 << 23 | 1 << 14, 2 << 25 | 1 << 23 | 1 << 14,
                true);
        // In a ring, two coloured vertices beside one another or across.
        alike("a ring with colours at 0 and 1, and at 0 and 3", RING | 1 << 25 | 1 << 23, RING | 1 << 25 | 1 << 19,
                false);
        alike("a ring with colours at 0 and 1, and at 5 and 0", RING | 1 << 25 | 1 << 23, RING | 1 << 25 | 1 << 15,
                true);
    }

    private static void onlyColoursDiffer() {
        bare("colour 0 and colour 3 all over", 0, COLOURS_ONLY, true);
        bare("all edges, colour 0 and colour 3", State.ALL_EDGES, State.ALL_BITS, true);
        for (int bit = 15; bit < 27; bit++) {
            bare("nothing and colour bit " + bit, 0, 1 << bit, true);
            bare("all and all but colour bit " + bit, State.ALL_BITS, State.ALL_BITS - (1 << bit), true);
        }
        // Colours that stand in the way of every renumbering that the edges need.
        bare("the first edge and the last, six vertices coloured",
                1 << 14 | 1 << 25 | 2 << 23, 1 | 3 << 25 | 1 << 15, true);
        bare("lopsided in two numberings", State.LOPSIDED.code0(), State.LOPSIDED.code1(), true);
    }

    private static void edgesDiffer() {
        bare("no edges and all", 0, State.ALL_EDGES, false);
        bare("no edges and all, colour 3 all over", COLOURS_ONLY, State.ALL_BITS, false);
        for (int bit = 0; bit < 15; bit++) {
            bare("nothing and bit " + bit, 0, 1 << bit, false);
            bare("all and all but bit " + bit, State.ALL_BITS, State.ALL_BITS - (1 << bit), false);
            bare("the last edge and the one at bit " + bit, 1, 1 << bit | COLOURS_ONLY, true);
        }
        bare("a ring and two triangles", RING, TWO_TRIANGLES, false);
        bare("a ring and two triangles of the same colours", RING | 1 << 25, TWO_TRIANGLES | 1 << 25, false);
    }

    private static void coloursStay() {
        for (State state : State.ALL) {
            GraphCanon x = state.make();
            x.alikeWithoutColours();
            state.dueIn(x, "alikeWithoutColours()");
        }
    }

    public static void main(String[] args) {
        String a = "promise 13";
        String alike = "Two graphs are ALIKE if some renumbering carries the one over into the other";
        Check.sentence(a, alike + ": the same graphs", AlikeBoundaryTest::theSameGraphs);
        Check.sentence(a, alike + ": empty and full", AlikeBoundaryTest::emptyAndFull);
        Check.sentence(a, alike + ": one edge or one colour", AlikeBoundaryTest::oneBitApart);
        Check.sentence(a, alike + ": any of the 720", AlikeBoundaryTest::someRenumbering);
        Check.sentence(a, alike + ": by exchange", AlikeBoundaryTest::exchanges);
        Check.sentence(a, alike + ": it is not enough that counts agree", AlikeBoundaryTest::sameCountsOnly);
        String b = "promise 14";
        String bare = "Whether the two graphs would be alike if all colours were 0";
        Check.sentence(b, bare + ": they differ in colours alone", AlikeBoundaryTest::onlyColoursDiffer);
        Check.sentence(b, bare + ": they differ in edges", AlikeBoundaryTest::edgesDiffer);
        Check.sentence(b, bare + ": would be; the colours stay", AlikeBoundaryTest::coloursStay);
        Check.end();
    }
}
