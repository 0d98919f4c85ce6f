/** Long mixed runs, every answer and the state after every call compared with Model. */
public final class ModelTest {
    // With the two looks at the state after each step: 510 of the 512 calls.
    private static final int STEPS = 170;
    private static final int RUNS = 60;
    private static final int[] EXTREMES = {
        -1, 6, 7, 8, 31, 32, 33, 64, -6, Integer.MAX_VALUE, Integer.MIN_VALUE};

    private static long seed;

    private static int below(int bound) {
        seed = seed * 6364136223846793005L + 1442695040888963407L;
        return (int) ((seed >>> 33) % bound);
    }

    private static int mostlyBelow(int bound, int wrongIn) {
        if (below(wrongIn) != 0) {
            return below(bound);
        }
        return below(2) == 0 ? bound : EXTREMES[below(EXTREMES.length)];
    }

    private static void change(GraphCanon x, Model m, String at, int wrongIn) {
        int graph = mostlyBelow(2, wrongIn);
        int u = mostlyBelow(6, wrongIn);
        int v = mostlyBelow(6, wrongIn);
        int colour = mostlyBelow(4, wrongIn);
        boolean there = below(2) == 0;
        String uv = "(" + graph + ", " + u + ", " + v + ")";
        switch (below(8)) {
            case 0, 1, 2 -> Check.due(at + "edge" + uv + there,
                    x.edge(graph, u, v, there), m.edge(graph, u, v, there));
            case 3, 4 -> Check.due(at + "colour(" + graph + ", " + v + ", " + colour + ")",
                    x.colour(graph, v, colour), m.colour(graph, v, colour));
            case 5 -> Check.due(at + "exchange" + uv, x.exchange(graph, u, v), m.exchange(graph, u, v));
            case 6 -> Check.due(at + "complement(" + graph + ")", x.complement(graph), m.complement(graph));
            default -> {
                // Copying each time would leave too few runs with two different graphs.
                if (below(3) == 0) {
                    x.copy();
                    m.copy();
                }
            }
        }
    }

    private static void ask(GraphCanon x, Model m, String at, int wrongIn) {
        int graph = mostlyBelow(2, wrongIn);
        int v = mostlyBelow(6, wrongIn);
        String g = "(" + graph + ")";
        switch (below(8)) {
            case 0 -> Check.due(at + "code" + g, x.code(graph), m.code(graph));
            case 1 -> Check.due(at + "canonical" + g, x.canonical(graph), m.canonical(graph));
            case 2 -> Check.due(at + "symmetries" + g, x.symmetries(graph), m.symmetries(graph));
            case 3 -> Check.due(at + "orbit(" + graph + ", " + v + ")", x.orbit(graph, v), m.orbit(graph, v));
            case 4 -> Check.due(at + "orbits" + g, x.orbits(graph), m.orbits(graph));
            case 5 -> Check.due(at + "variants" + g, x.variants(graph), m.variants(graph));
            case 6 -> Check.due(at + "alike()", x.alike(), m.alike());
            default -> Check.due(at + "alikeWithoutColours()", x.alikeWithoutColours(), m.alikeWithoutColours());
        }
    }

    private static void run(int number) {
        GraphCanon x = new GraphCanon();
        Model m = new Model();
        int wrongIn = number % 2 == 0 ? 6 : 40;
        for (int step = 0; step < STEPS; step++) {
            String at = "run " + number + ", step " + step + ": ";
            if (below(3) == 0) {
                ask(x, m, at, wrongIn);
            } else {
                change(x, m, at, wrongIn);
            }
            Check.due(at + "code(0) afterwards", x.code(0), m.code(0));
            Check.due(at + "code(1) afterwards", x.code(1), m.code(1));
        }
    }

    public static void main(String[] args) {
        for (int number = 0; number < RUNS; number++) {
            seed = number;
            run(number);
        }
        Check.end();
    }
}
