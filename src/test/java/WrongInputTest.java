/** Wrong inputs to every method that takes one: the answer due, and nothing changed. */
public final class WrongInputTest {
    private static final int[] WRONG_GRAPHS = {
        -1, 2, 3, -2, 32, 1 << 16, Integer.MAX_VALUE, Integer.MIN_VALUE};
    private static final int[] WRONG_VERTICES = {
        -1, 6, 7, -6, 32, 1 << 16, Integer.MAX_VALUE, Integer.MIN_VALUE};
    private static final int[] WRONG_COLOURS = {
        -1, 4, 5, -4, 32, 1 << 16, Integer.MAX_VALUE, Integer.MIN_VALUE};

    private static GraphCanon x;
    private static int code0;
    private static int code1;

    private static void fresh() {
        x = new GraphCanon();
        x.edge(0, 0, 1, true);
        x.edge(0, 1, 4, true);
        x.colour(0, 5, 3);
        x.colour(0, 0, 1);
        x.complement(1);
        x.edge(1, 2, 3, false);
        x.colour(1, 2, 2);
        code0 = x.code(0);
        code1 = x.code(1);
    }

    private static void due(String call, int got, int want) {
        Check.due(call, got, want);
        Check.due(call + ", then code(0)", x.code(0), code0);
        Check.due(call + ", then code(1)", x.code(1), code1);
    }

    private static void wrongGraph(int g) {
        fresh();
        String at = "(" + g + ") ";
        due("edge set" + at, x.edge(g, 0, 2, true), GraphCanon.BAD_GRAPH);
        due("edge taken" + at, x.edge(g, 0, 1, false), GraphCanon.BAD_GRAPH);
        due("colour" + at, x.colour(g, 1, 3), GraphCanon.BAD_GRAPH);
        due("exchange" + at, x.exchange(g, 0, 5), GraphCanon.BAD_GRAPH);
        due("complement" + at, x.complement(g), GraphCanon.BAD_GRAPH);
        due("code" + at, x.code(g), GraphCanon.BAD_GRAPH);
        due("canonical" + at, x.canonical(g), GraphCanon.BAD_GRAPH);
        due("symmetries" + at, x.symmetries(g), GraphCanon.BAD_GRAPH);
        due("orbit" + at, x.orbit(g, 0), GraphCanon.BAD_GRAPH);
        due("orbits" + at, x.orbits(g), GraphCanon.BAD_GRAPH);
        due("variants" + at, x.variants(g), GraphCanon.BAD_GRAPH);
        for (int v : WRONG_VERTICES) {
            due("edge" + at + v, x.edge(g, v, v, true), GraphCanon.BAD_GRAPH);
            due("colour" + at + v, x.colour(g, v, v), GraphCanon.BAD_GRAPH);
            due("exchange" + at + v, x.exchange(g, v, 0), GraphCanon.BAD_GRAPH);
            due("orbit" + at + v, x.orbit(g, v), GraphCanon.BAD_GRAPH);
        }
    }

    private static void wrongVertex(int g, int wrong) {
        fresh();
        for (int v = 0; v < 6; v++) {
            String at = "(" + g + ", " + wrong + ", " + v + ") ";
            due("edge " + at, x.edge(g, wrong, v, true), GraphCanon.BAD_VERTEX);
            due("edge turned " + at, x.edge(g, v, wrong, true), GraphCanon.BAD_VERTEX);
            due("edge taken " + at, x.edge(g, wrong, v, false), GraphCanon.BAD_VERTEX);
            due("edge taken turned " + at, x.edge(g, v, wrong, false), GraphCanon.BAD_VERTEX);
            due("exchange " + at, x.exchange(g, wrong, v), GraphCanon.BAD_VERTEX);
            due("exchange turned " + at, x.exchange(g, v, wrong), GraphCanon.BAD_VERTEX);
        }
        String at = "(" + g + ", " + wrong + ") ";
        due("edge both " + at, x.edge(g, wrong, wrong, true), GraphCanon.BAD_VERTEX);
        due("exchange both " + at, x.exchange(g, wrong, wrong), GraphCanon.BAD_VERTEX);
        due("orbit " + at, x.orbit(g, wrong), GraphCanon.BAD_VERTEX);
        for (int colour = -1; colour <= 4; colour++) {
            due("colour " + at + colour, x.colour(g, wrong, colour), GraphCanon.BAD_VERTEX);
        }
    }

    private static void edgeToItself(int g) {
        fresh();
        for (int v = 0; v < 6; v++) {
            due("edge to itself set " + v, x.edge(g, v, v, true), GraphCanon.BAD_VERTEX);
            due("edge to itself taken " + v, x.edge(g, v, v, false), GraphCanon.BAD_VERTEX);
        }
    }

    private static void wrongColour(int g, int wrong) {
        fresh();
        for (int v = 0; v < 6; v++) {
            due("colour(" + g + ", " + v + ", " + wrong + ")", x.colour(g, v, wrong), GraphCanon.BAD_COLOUR);
        }
    }

    // The calls that ask change nothing with right inputs either.
    private static void asking(int g) {
        fresh();
        Model m = new Model();
        m.edge(0, 0, 1, true);
        m.edge(0, 1, 4, true);
        m.colour(0, 5, 3);
        m.colour(0, 0, 1);
        m.complement(1);
        m.edge(1, 2, 3, false);
        m.colour(1, 2, 2);
        due("canonical", x.canonical(g), m.canonical(g));
        due("symmetries", x.symmetries(g), m.symmetries(g));
        due("orbits", x.orbits(g), m.orbits(g));
        due("variants", x.variants(g), m.variants(g));
        for (int v = 0; v < 6; v++) {
            due("orbit " + v, x.orbit(g, v), m.orbit(g, v));
        }
        due("alike", x.alike() ? 1 : 0, 0);
        due("alikeWithoutColours", x.alikeWithoutColours() ? 1 : 0, 0);
    }

    public static void main(String[] args) {
        for (int wrong : WRONG_GRAPHS) {
            wrongGraph(wrong);
        }
        for (int g = 0; g < 2; g++) {
            for (int wrong : WRONG_VERTICES) {
                wrongVertex(g, wrong);
            }
            for (int wrong : WRONG_COLOURS) {
                wrongColour(g, wrong);
            }
            edgeToItself(g);
            asking(g);
        }
        Check.end();
    }
}
