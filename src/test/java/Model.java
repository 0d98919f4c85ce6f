import java.util.ArrayList;
import java.util.HashSet;
import java.util.List;
import java.util.Set;

/** The document's words put into slow, plain Java, sharing no method with GraphCanon. */
final class Model {
    static final List<int[]> RENUMBERINGS = allRenumberings();

    private static final class Graph {
        final int[] colours = new int[6];
        final boolean[][] edges = new boolean[6][6];
    }

    private final Graph[] graphs = {new Graph(), new Graph()};

    private static List<int[]> allRenumberings() {
        List<int[]> all = new ArrayList<>();
        extend(new ArrayList<>(), all);
        return all;
    }

    private static void extend(List<Integer> begun, List<int[]> all) {
        if (begun.size() == 6) {
            all.add(begun.stream().mapToInt(Integer::intValue).toArray());
            return;
        }
        for (int number = 0; number < 6; number++) {
            if (!begun.contains(number)) {
                begun.add(number);
                extend(begun, all);
                begun.remove(begun.size() - 1);
            }
        }
    }

    private static boolean badGraph(int graph) {
        return graph != 0 && graph != 1;
    }

    private static boolean badVertex(int v) {
        return v < 0 || v > 5;
    }

    private static Graph carried(Graph from, int[] renumbering) {
        Graph to = new Graph();
        for (int u = 0; u < 6; u++) {
            to.colours[renumbering[u]] = from.colours[u];
            for (int v = 0; v < 6; v++) {
                to.edges[renumbering[u]][renumbering[v]] = from.edges[u][v];
            }
        }
        return to;
    }

    private static int codeOf(Graph graph) {
        StringBuilder bits = new StringBuilder();
        for (int colour : graph.colours) {
            bits.append(colour / 2).append(colour % 2);
        }
        for (int u = 0; u < 6; u++) {
            for (int v = u + 1; v < 6; v++) {
                bits.append(graph.edges[u][v] ? '1' : '0');
            }
        }
        return Integer.parseInt(bits.toString(), 2);
    }

    private static Set<Integer> codesOf(Graph graph) {
        Set<Integer> codes = new HashSet<>();
        for (int[] renumbering : RENUMBERINGS) {
            codes.add(codeOf(carried(graph, renumbering)));
        }
        return codes;
    }

    private static List<int[]> symmetriesOf(Graph graph) {
        List<int[]> found = new ArrayList<>();
        for (int[] renumbering : RENUMBERINGS) {
            if (codeOf(carried(graph, renumbering)) == codeOf(graph)) {
                found.add(renumbering);
            }
        }
        return found;
    }

    private static Graph colourless(Graph graph) {
        Graph bare = new Graph();
        for (int u = 0; u < 6; u++) {
            bare.edges[u] = graph.edges[u].clone();
        }
        return bare;
    }

    int edge(int graph, int u, int v, boolean there) {
        if (badGraph(graph)) {
            return -1;
        }
        if (badVertex(u) || badVertex(v) || u == v) {
            return -2;
        }
        boolean[][] edges = graphs[graph].edges;
        int before = edges[u][v] ? 1 : 0;
        edges[u][v] = there;
        edges[v][u] = there;
        return before;
    }

    int colour(int graph, int v, int colour) {
        if (badGraph(graph)) {
            return -1;
        }
        if (badVertex(v)) {
            return -2;
        }
        if (colour < 0 || colour > 3) {
            return -3;
        }
        int before = graphs[graph].colours[v];
        graphs[graph].colours[v] = colour;
        return before;
    }

    int exchange(int graph, int u, int v) {
        if (badGraph(graph)) {
            return -1;
        }
        if (badVertex(u) || badVertex(v)) {
            return -2;
        }
        int[] renumbering = {0, 1, 2, 3, 4, 5};
        renumbering[u] = v;
        renumbering[v] = u;
        graphs[graph] = carried(graphs[graph], renumbering);
        return 0;
    }

    int complement(int graph) {
        if (badGraph(graph)) {
            return -1;
        }
        int count = 0;
        boolean[][] edges = graphs[graph].edges;
        for (int u = 0; u < 6; u++) {
            for (int v = 0; v < 6; v++) {
                edges[u][v] = u != v && !edges[u][v];
                count += u < v && edges[u][v] ? 1 : 0;
            }
        }
        return count;
    }

    void copy() {
        graphs[1] = carried(graphs[0], new int[] {0, 1, 2, 3, 4, 5});
    }

    int codeUnder(int graph, int[] renumbering) {
        return codeOf(carried(graphs[graph], renumbering));
    }

    int code(int graph) {
        return badGraph(graph) ? -1 : codeOf(graphs[graph]);
    }

    int canonical(int graph) {
        return badGraph(graph) ? -1 : codesOf(graphs[graph]).stream().min(Integer::compare).get();
    }

    int symmetries(int graph) {
        return badGraph(graph) ? -1 : symmetriesOf(graphs[graph]).size();
    }

    int orbit(int graph, int v) {
        if (badGraph(graph)) {
            return -1;
        }
        if (badVertex(v)) {
            return -2;
        }
        int mask = 0;
        for (int[] symmetry : symmetriesOf(graphs[graph])) {
            mask |= 1 << symmetry[v];
        }
        return mask;
    }

    int orbits(int graph) {
        if (badGraph(graph)) {
            return -1;
        }
        Set<Integer> masks = new HashSet<>();
        for (int v = 0; v < 6; v++) {
            masks.add(orbit(graph, v));
        }
        return masks.size();
    }

    int variants(int graph) {
        return badGraph(graph) ? -1 : codesOf(graphs[graph]).size();
    }

    boolean alike() {
        return codesOf(graphs[0]).contains(codeOf(graphs[1]));
    }

    boolean alikeWithoutColours() {
        return codesOf(colourless(graphs[0])).contains(codeOf(colourless(graphs[1])));
    }
}
