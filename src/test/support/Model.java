import java.util.ArrayList;
import java.util.List;

/** A plain model of the document: it lists every match of a pattern by trying everything. */
final class Model {
    private record Node(int label, int value) { }

    private record Edge(int from, int to, int type, int weight) { }

    private record Spot(int labels, int least, int greatest) { }

    private record Link(int a, int b, int types, int kind) { }

    private static final class Pattern {
        int mode = 0;
        final Spot[] spots = new Spot[4];
        final Link[] links = new Link[4];

        Pattern copy() {
            Pattern copy = new Pattern();
            copy.mode = mode;
            System.arraycopy(spots, 0, copy.spots, 0, 4);
            System.arraycopy(links, 0, copy.links, 0, 4);
            return copy;
        }
    }

    private static final class Matches {
        int number = 0;
        int lightest = Integer.MAX_VALUE;
        int heaviest = Integer.MIN_VALUE;
        final List<int[]> listed = new ArrayList<>();
    }

    private final Node[] nodes = new Node[12];
    private final Edge[] edges = new Edge[20];
    private Pattern hand = new Pattern();
    private Pattern kept = new Pattern();

    List<Integer> answers(List<Run.Call> calls) {
        return calls.stream().map(call -> answer(call.name(), call.arguments())).toList();
    }

    /** What the call answers; a boolean counts 1 or 0. */
    int answer(String call, int... a) {
        return switch (call) {
            case "addNode" -> addNode(a[0], a[1]);
            case "setNode" -> number(setNode(a[0], a[1], a[2]));
            case "removeNode" -> removeNode(a[0]);
            case "addEdge" -> addEdge(a[0], a[1], a[2]);
            case "removeEdge" -> number(removeEdge(a[0]));
            case "degree" -> degree(a[0], a[1]);
            case "reach" -> reach(a[0], a[1], a[2]);
            case "nodes" -> nodes();
            case "begin" -> number(begin(a[0]));
            case "spot" -> number(spot(a[0], a[1], a[2], a[3]));
            case "link" -> number(link(a[0], a[1], a[2], a[3]));
            case "count" -> count();
            case "part" -> part(a[0], a[1]);
            case "weigh" -> weigh(a[0]);
            case "keep" -> keep();
            case "kept" -> kept();
            default -> throw new IllegalArgumentException(call);
        };
    }

    private static int number(boolean answer) {
        return answer ? 1 : 0;
    }

    boolean isNode(int n) {
        return n >= 0 && n < 12 && nodes[n] != null;
    }

    private static boolean within(int x, int least, int greatest) {
        return least <= x && x <= greatest;
    }

    private int addNode(int label, int value) {
        if (!within(label, 0, 3) || !within(value, -99, 99)) {
            return -1;
        }
        for (int n = 0; n < 12; n++) {
            if (nodes[n] == null) {
                nodes[n] = new Node(label, value);
                return n;
            }
        }
        return -2;
    }

    private boolean setNode(int n, int label, int value) {
        if (!isNode(n) || !within(label, 0, 3) || !within(value, -99, 99)) {
            return false;
        }
        nodes[n] = new Node(label, value);
        return true;
    }

    private int removeNode(int n) {
        if (!isNode(n)) {
            return -1;
        }
        int gone = 0;
        for (int e = 0; e < 20; e++) {
            if (edges[e] != null && (edges[e].from == n || edges[e].to == n)) {
                edges[e] = null;
                gone++;
            }
        }
        nodes[n] = null;
        return gone;
    }

    private int addEdge(int from, int to, int what) {
        if (!isNode(from) || !isNode(to) || !within(what, 0, 62)) {
            return -1;
        }
        for (int e = 0; e < 20; e++) {
            if (edges[e] == null) {
                edges[e] = new Edge(from, to, what % 3, what / 3);
                return e;
            }
        }
        return -2;
    }

    private boolean removeEdge(int e) {
        if (!within(e, 0, 19) || edges[e] == null) {
            return false;
        }
        edges[e] = null;
        return true;
    }

    private int degree(int n, int what) {
        if (!isNode(n) || !within(what, 0, 1)) {
            return -1;
        }
        int degree = 0;
        for (Edge edge : edges) {
            if (edge != null && (what == 0 ? edge.from : edge.to) == n) {
                degree++;
            }
        }
        return degree;
    }

    private boolean isWay(int x, int y, int types, int longest) {
        for (Edge edge : edges) {
            if (edge != null && edge.from == x && (types >> edge.type & 1) == 1) {
                if (edge.to == y || longest > 1 && isWay(edge.to, y, types, longest - 1)) {
                    return true;
                }
            }
        }
        return false;
    }

    private int reach(int n, int types, int k) {
        if (!isNode(n) || !within(types, 0, 7) || !within(k, 1, 3)) {
            return -1;
        }
        int reached = 0;
        for (int m = 0; m < 12; m++) {
            reached += isWay(n, m, types, k) ? 1 << m : 0;
        }
        return reached;
    }

    int nodes() {
        int set = 0;
        for (int n = 0; n < 12; n++) {
            set += nodes[n] != null ? 1 << n : 0;
        }
        return set;
    }

    private boolean begin(int mode) {
        if (!within(mode, 0, 3)) {
            return false;
        }
        hand = new Pattern();
        hand.mode = mode;
        return true;
    }

    private boolean spot(int i, int labels, int least, int greatest) {
        if (!within(i, 0, 3) || !within(labels, 0, 15)) {
            return false;
        }
        hand.spots[i] = new Spot(labels, least, greatest);
        return true;
    }

    private boolean link(int j, int ab, int types, int kind) {
        if (!within(j, 0, 3) || !within(ab, 0, 15) || !within(types, 0, 7) || !within(kind, 0, 1)) {
            return false;
        }
        if (hand.spots[ab % 4] == null || hand.spots[ab / 4] == null) {
            return false;
        }
        hand.links[j] = new Link(ab % 4, ab / 4, types, kind);
        return true;
    }

    private int part(int k, int part) {
        if (!within(k, 0, 999) || !within(part, 0, 7)) {
            return -1;
        }
        Matches matches = matches(hand);
        return k < matches.listed.size() ? matches.listed.get(k)[part] : -1;
    }

    private int weigh(int what) {
        Matches matches = matches(hand);
        if (matches.number == 0 || !within(what, 0, 1)) {
            return -1;
        }
        return what == 0 ? matches.lightest : matches.heaviest;
    }

    int count() {
        return matches(hand).number;
    }

    private int keep() {
        kept = hand.copy();
        return count();
    }

    private int kept() {
        return matches(kept).number;
    }

    private Matches matches(Pattern pattern) {
        Matches matches = new Matches();
        chooseNode(pattern, 0, new int[8], matches);
        return matches;
    }

    private void chooseNode(Pattern pattern, int i, int[] parts, Matches matches) {
        if (i == 4) {
            if (nodesMatch(pattern, parts)) {
                chooseEdge(pattern, 0, parts, matches);
            }
        } else if (pattern.spots[i] == null) {
            parts[i] = -1;
            chooseNode(pattern, i + 1, parts, matches);
        } else {
            Spot spot = pattern.spots[i];
            for (int n = 0; n < 12; n++) {
                if (nodes[n] != null && (spot.labels >> nodes[n].label & 1) == 1
                        && within(nodes[n].value, spot.least, spot.greatest)) {
                    parts[i] = n;
                    chooseNode(pattern, i + 1, parts, matches);
                }
            }
        }
    }

    private boolean nodesMatch(Pattern pattern, int[] parts) {
        for (int i = 0; i < 4; i++) {
            for (int h = 0; h < i; h++) {
                if (pattern.mode % 2 == 1 && parts[i] >= 0 && parts[i] == parts[h]) {
                    return false;
                }
            }
        }
        for (Link link : pattern.links) {
            if (link != null && link.kind == 1 && !isWay(parts[link.a], parts[link.b], link.types, 3)) {
                return false;
            }
        }
        return true;
    }

    private void chooseEdge(Pattern pattern, int j, int[] parts, Matches matches) {
        if (j == 4) {
            addMatch(pattern, parts, matches);
            return;
        }
        Link link = pattern.links[j];
        if (link == null || link.kind == 1) {
            parts[4 + j] = -1;
            chooseEdge(pattern, j + 1, parts, matches);
            return;
        }
        for (int e = 0; e < 20; e++) {
            if (edges[e] != null && edges[e].from == parts[link.a] && edges[e].to == parts[link.b]
                    && (link.types >> edges[e].type & 1) == 1) {
                parts[4 + j] = e;
                chooseEdge(pattern, j + 1, parts, matches);
            }
        }
    }

    private void addMatch(Pattern pattern, int[] parts, Matches matches) {
        int weight = 0;
        for (int p = 4; p < 8; p++) {
            for (int q = 4; q < p; q++) {
                if (pattern.mode >= 2 && parts[p] >= 0 && parts[p] == parts[q]) {
                    return;
                }
            }
            weight += parts[p] >= 0 ? edges[parts[p]].weight : 0;
        }
        matches.number++;
        matches.lightest = Math.min(matches.lightest, weight);
        matches.heaviest = Math.max(matches.heaviest, weight);
        if (matches.listed.size() < 1000) {
            matches.listed.add(parts.clone());
        }
    }
}
