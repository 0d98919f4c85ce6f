import java.util.HashMap;
import java.util.Map;

/** Counts over whole families of graphs that are known from elsewhere. */
public final class CountTest {
    private static GraphCanon withEdges(int edges) {
        GraphCanon x = new GraphCanon();
        int bit = 14;
        for (int u = 0; u < 6; u++) {
            for (int v = u + 1; v < 6; v++) {
                if ((edges >> bit & 1) == 1) {
                    x.edge(0, u, v, true);
                }
                bit--;
            }
        }
        return x;
    }

    private static GraphCanon withColours(int colours) {
        GraphCanon x = new GraphCanon();
        for (int v = 0; v < 6; v++) {
            x.colour(0, v, colours >> 2 * (5 - v) & 3);
        }
        return x;
    }

    /** Every class must be as large as variants says, and be named by its least member. */
    private static void classes(String family, Map<Integer, Integer> sizes, Map<Integer, Integer> variants, int want) {
        Check.due(family + ": classes", sizes.size(), want);
        for (Map.Entry<Integer, Integer> entry : sizes.entrySet()) {
            int least = entry.getKey();
            Check.due(family + ": variants of " + least, variants.get(least), entry.getValue());
        }
    }

    // Six vertices and no colours: 156 graphs up to renumbering.
    private static void uncoloured() {
        Map<Integer, Integer> sizes = new HashMap<>();
        Map<Integer, Integer> variants = new HashMap<>();
        for (int edges = 0; edges < 1 << 15; edges++) {
            GraphCanon x = withEdges(edges);
            Check.due("code of " + edges, x.code(0), edges);
            int least = x.canonical(0);
            // Counting upwards, the first member met is the least.
            if (!sizes.containsKey(least)) {
                Check.due("canonical of the first of its class", least, edges);
                variants.put(least, x.variants(0));
                Check.due("symmetries of " + edges, x.symmetries(0), 720 / x.variants(0));
            }
            sizes.merge(least, 1, Integer::sum);
        }
        classes("uncoloured", sizes, variants, 156);
    }

    // No edges: a class is a bag of six colours out of four, 9 over 3 of them.
    private static void edgeless() {
        Map<Integer, Integer> sizes = new HashMap<>();
        Map<Integer, Integer> variants = new HashMap<>();
        for (int colours = 0; colours < 1 << 12; colours++) {
            GraphCanon x = withColours(colours);
            Check.due("code of colours " + colours, x.code(0), colours << 15);
            int least = x.canonical(0);
            if (!sizes.containsKey(least)) {
                Check.due("canonical of the first of its class", least, colours << 15);
                variants.put(least, x.variants(0));
            }
            sizes.merge(least, 1, Integer::sum);
        }
        classes("edgeless", sizes, variants, 84);
    }

    public static void main(String[] args) {
        uncoloured();
        edgeless();
        Check.end();
    }
}
