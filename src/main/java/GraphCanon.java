/** Small graphs with coloured vertices, two side by side. */
public final class GraphCanon {
    public static final int BAD_GRAPH = -1;
    public static final int BAD_VERTEX = -2;
    public static final int BAD_COLOUR = -3;

    private static final int GRAPHS = 2;
    private static final int VERTICES = 6;
    private static final int COLOURS = 4;
    private static final int RENUMBERINGS = 720;

    private static final int PAIR_BITS = 15;
    private static final int ALL_PAIRS = (1 << PAIR_BITS) - 1;
    private static final int COLOUR_BITS = 2;
    private static final int COLOUR_MASK = COLOURS - 1;
    private static final int VERTEX_0_COLOUR_BIT = 25;

    private static final int NUMBER_BITS = 3;
    private static final int NUMBER_MASK = 7;

    // A code tells everything about a graph, so it is all that is kept of one.
    private final int[] codes = new int[GRAPHS];

    // A renumbering is packed into one int, so that asking needs no scratch
    // array: three bits for the new number of each vertex, vertex 0 lowest.
    private final int[] renumberings = new int[RENUMBERINGS];

    public GraphCanon() {
        for (int n = 0; n < RENUMBERINGS; n++) {
            renumberings[n] = renumberingAt(n);
        }
    }

    public int edge(int graph, int u, int v, boolean there) {
        if (!isGraph(graph)) {
            return BAD_GRAPH;
        }
        if (!isVertex(u) || !isVertex(v) || u == v) {
            return BAD_VERTEX;
        }
        int bit = pairBit(u, v);
        int before = codes[graph];
        codes[graph] = there ? before | (1 << bit) : before & ~(1 << bit);
        return (before >> bit) & 1;
    }

    public int colour(int graph, int v, int colour) {
        if (!isGraph(graph)) {
            return BAD_GRAPH;
        }
        if (!isVertex(v)) {
            return BAD_VERTEX;
        }
        if (colour < 0 || colour >= COLOURS) {
            return BAD_COLOUR;
        }
        int bit = colourBit(v);
        int before = codes[graph];
        codes[graph] = (before & ~(COLOUR_MASK << bit)) | (colour << bit);
        return (before >> bit) & COLOUR_MASK;
    }

    public int exchange(int graph, int u, int v) {
        if (!isGraph(graph)) {
            return BAD_GRAPH;
        }
        if (!isVertex(u) || !isVertex(v)) {
            return BAD_VERTEX;
        }
        int swap = swapOf(u, v);
        codes[graph] = renumbered(codes[graph], swap);
        return 0;
    }

    public int complement(int graph) {
        if (!isGraph(graph)) {
            return BAD_GRAPH;
        }
        codes[graph] = codes[graph] ^ ALL_PAIRS;
        return edgeCount(codes[graph]);
    }

    public void copy() {
        codes[1] = codes[0];
    }

    public int code(int graph) {
        return isGraph(graph) ? codes[graph] : BAD_GRAPH;
    }

    public int canonical(int graph) {
        return isGraph(graph) ? smallestCode(codes[graph]) : BAD_GRAPH;
    }

    public int symmetries(int graph) {
        return isGraph(graph) ? symmetryCount(codes[graph]) : BAD_GRAPH;
    }

    public int orbit(int graph, int v) {
        if (!isGraph(graph)) {
            return BAD_GRAPH;
        }
        return isVertex(v) ? orbitMask(codes[graph], v) : BAD_VERTEX;
    }

    public int orbits(int graph) {
        return isGraph(graph) ? orbitCount(codes[graph]) : BAD_GRAPH;
    }

    public int variants(int graph) {
        return isGraph(graph) ? variantCount(codes[graph]) : BAD_GRAPH;
    }

    public boolean alike() {
        return smallestCode(codes[0]) == smallestCode(codes[1]);
    }

    public boolean alikeWithoutColours() {
        return smallestCode(codes[0] & ALL_PAIRS) == smallestCode(codes[1] & ALL_PAIRS);
    }

    private static boolean isGraph(int graph) {
        return graph >= 0 && graph < GRAPHS;
    }

    private static boolean isVertex(int v) {
        return v >= 0 && v < VERTICES;
    }

    private static int colourBit(int v) {
        return VERTEX_0_COLOUR_BIT - COLOUR_BITS * v;
    }

    private static int pairBit(int u, int v) {
        int low = u < v ? u : v;
        int high = u < v ? v : u;
        // The vertices below low begin 5 + 4 + .. pairs, low terms in all.
        int pairsOfLowerVertices = low * (2 * VERTICES - 1 - low) / 2;
        int place = pairsOfLowerVertices + high - low - 1;
        return PAIR_BITS - 1 - place;
    }

    private static int edgeCount(int code) {
        int count = 0;
        for (int bit = 0; bit < PAIR_BITS; bit++) {
            count += (code >> bit) & 1;
        }
        return count;
    }

    /** Reads n as digits of falling base: each digit picks one of the numbers still free. */
    private static int renumberingAt(int n) {
        int packed = 0;
        int taken = 0;
        int rest = n;
        for (int v = 0; v < VERTICES; v++) {
            int choices = VERTICES - v;
            int number = freeNumber(taken, rest % choices);
            packed |= number << (NUMBER_BITS * v);
            taken |= 1 << number;
            rest /= choices;
        }
        return packed;
    }

    private static int freeNumber(int taken, int rank) {
        int found = 0;
        int ahead = rank;
        for (int number = 0; number < VERTICES; number++) {
            if (((taken >> number) & 1) == 0) {
                if (ahead == 0) {
                    found = number;
                }
                ahead--;
            }
        }
        return found;
    }

    private static int swapOf(int u, int v) {
        int packed = 0;
        for (int w = 0; w < VERTICES; w++) {
            int number = w == u ? v : w == v ? u : w;
            packed |= number << (NUMBER_BITS * w);
        }
        return packed;
    }

    private static int numberOf(int renumbering, int v) {
        return (renumbering >> (NUMBER_BITS * v)) & NUMBER_MASK;
    }

    private static int renumbered(int code, int renumbering) {
        int result = 0;
        for (int u = 0; u < VERTICES; u++) {
            int newU = numberOf(renumbering, u);
            int colour = (code >> colourBit(u)) & COLOUR_MASK;
            result |= colour << colourBit(newU);
            for (int v = u + 1; v < VERTICES; v++) {
                int newV = numberOf(renumbering, v);
                int there = (code >> pairBit(u, v)) & 1;
                result |= there << pairBit(newU, newV);
            }
        }
        return result;
    }

    private int smallestCode(int code) {
        int smallest = code;
        for (int n = 0; n < RENUMBERINGS; n++) {
            int other = renumbered(code, renumberings[n]);
            if (other < smallest) {
                smallest = other;
            }
        }
        return smallest;
    }

    private int symmetryCount(int code) {
        int count = 0;
        for (int n = 0; n < RENUMBERINGS; n++) {
            if (renumbered(code, renumberings[n]) == code) {
                count++;
            }
        }
        return count;
    }

    private int orbitMask(int code, int v) {
        int mask = 0;
        for (int n = 0; n < RENUMBERINGS; n++) {
            if (renumbered(code, renumberings[n]) == code) {
                mask |= 1 << numberOf(renumberings[n], v);
            }
        }
        return mask;
    }

    private int orbitCount(int code) {
        int count = 0;
        for (int v = 0; v < VERTICES; v++) {
            int lower = (1 << v) - 1;
            // Orbits don't overlap, so each is counted at its lowest vertex alone.
            if ((orbitMask(code, v) & lower) == 0) {
                count++;
            }
        }
        return count;
    }

    private int variantCount(int code) {
        int same = symmetryCount(code);
        // Every variant comes of equally many renumberings: as many as there
        // are symmetries. Keeping all numbers is one, so same is never 0.
        return same > 0 ? RENUMBERINGS / same : 0;
    }
}
