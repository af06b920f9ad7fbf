import java.util.ArrayList;
import java.util.List;

/**
 * Long runs of calls, held against a plain model that lists every match by trying everything. The runs come from a
 * fixed sequence of numbers, so that each start of the test makes the same calls.
 */
public final class ModelTest {
    private static final int RUNS = 1500;
    private static final int CALLS = 512;

    private long seed;
    private GraphPatterns program;
    private Model model;
    private String calls;

    private record Node(int label, int value) { }

    private record Edge(int from, int to, int type, int weight) { }

    private record Spot(int labels, int least, int greatest) { }

    private record Link(int a, int b, int types, int kind) { }

    private static final class Pattern {
        int mode = 0;
        final Spot[] spots = new Spot[4];
        final Link[] links = new Link[4];

        Pattern copy() {
            Pattern copy = new Pattern();
            copy.mode = mode;
            System.arraycopy(spots, 0, copy.spots, 0, 4);
            System.arraycopy(links, 0, copy.links, 0, 4);
            return copy;
        }
    }

    private static final class Matches {
        int number = 0;
        int lightest = Integer.MAX_VALUE;
        int heaviest = Integer.MIN_VALUE;
        final List<int[]> listed = new ArrayList<>();
    }

    private static final class Model {
        final Node[] nodes = new Node[12];
        final Edge[] edges = new Edge[20];
        Pattern hand = new Pattern();
        Pattern kept = new Pattern();

        boolean isNode(int n) {
            return n >= 0 && n < 12 && nodes[n] != null;
        }

        static boolean within(int x, int least, int greatest) {
            return least <= x && x <= greatest;
        }

        int addNode(int label, int value) {
            if (!within(label, 0, 3) || !within(value, -99, 99)) {
                return -1;
            }
            for (int n = 0; n < 12; n++) {
                if (nodes[n] == null) {
                    nodes[n] = new Node(label, value);
                    return n;
                }
            }
            return -2;
        }

        boolean setNode(int n, int label, int value) {
            if (!isNode(n) || !within(label, 0, 3) || !within(value, -99, 99)) {
                return false;
            }
            nodes[n] = new Node(label, value);
            return true;
        }

        int removeNode(int n) {
            if (!isNode(n)) {
                return -1;
            }
            int gone = 0;
            for (int e = 0; e < 20; e++) {
                if (edges[e] != null && (edges[e].from == n || edges[e].to == n)) {
                    edges[e] = null;
                    gone++;
                }
            }
            nodes[n] = null;
            return gone;
        }

        int addEdge(int from, int to, int what) {
            if (!isNode(from) || !isNode(to) || !within(what, 0, 62)) {
                return -1;
            }
            for (int e = 0; e < 20; e++) {
                if (edges[e] == null) {
                    edges[e] = new Edge(from, to, what % 3, what / 3);
                    return e;
                }
            }
            return -2;
        }

        boolean removeEdge(int e) {
            if (!within(e, 0, 19) || edges[e] == null) {
                return false;
            }
            edges[e] = null;
            return true;
        }

        int degree(int n, int what) {
            if (!isNode(n) || !within(what, 0, 1)) {
                return -1;
            }
            int degree = 0;
            for (Edge edge : edges) {
                if (edge != null && (what == 0 ? edge.from : edge.to) == n) {
                    degree++;
                }
            }
            return degree;
        }

        boolean isWay(int x, int y, int types, int longest) {
            for (Edge edge : edges) {
                if (edge != null && edge.from == x && (types >> edge.type & 1) == 1) {
                    if (edge.to == y || longest > 1 && isWay(edge.to, y, types, longest - 1)) {
                        return true;
                    }
                }
            }
            return false;
        }

        int reach(int n, int types, int k) {
            if (!isNode(n) || !within(types, 0, 7) || !within(k, 1, 3)) {
                return -1;
            }
            int reached = 0;
            for (int m = 0; m < 12; m++) {
                reached += isWay(n, m, types, k) ? 1 << m : 0;
            }
            return reached;
        }

        int nodes() {
            int set = 0;
            for (int n = 0; n < 12; n++) {
                set += nodes[n] != null ? 1 << n : 0;
            }
            return set;
        }

        boolean begin(int mode) {
            if (!within(mode, 0, 3)) {
                return false;
            }
            hand = new Pattern();
            hand.mode = mode;
            return true;
        }

        boolean spot(int i, int labels, int least, int greatest) {
            if (!within(i, 0, 3) || !within(labels, 0, 15)) {
                return false;
            }
            hand.spots[i] = new Spot(labels, least, greatest);
            return true;
        }

        boolean link(int j, int ab, int types, int kind) {
            if (!within(j, 0, 3) || !within(ab, 0, 15) || !within(types, 0, 7) || !within(kind, 0, 1)) {
                return false;
            }
            if (hand.spots[ab % 4] == null || hand.spots[ab / 4] == null) {
                return false;
            }
            hand.links[j] = new Link(ab % 4, ab / 4, types, kind);
            return true;
        }

        int part(int k, int part) {
            if (!within(k, 0, 999) || !within(part, 0, 7)) {
                return -1;
            }
            Matches matches = matches(hand);
            return k < matches.listed.size() ? matches.listed.get(k)[part] : -1;
        }

        int weigh(int what) {
            Matches matches = matches(hand);
            if (matches.number == 0 || !within(what, 0, 1)) {
                return -1;
            }
            return what == 0 ? matches.lightest : matches.heaviest;
        }

        Matches matches(Pattern pattern) {
            Matches matches = new Matches();
            chooseNode(pattern, 0, new int[8], matches);
            return matches;
        }

        void chooseNode(Pattern pattern, int i, int[] parts, Matches matches) {
            if (i == 4) {
                if (nodesMatch(pattern, parts)) {
                    chooseEdge(pattern, 0, parts, matches);
                }
            } else if (pattern.spots[i] == null) {
                parts[i] = -1;
                chooseNode(pattern, i + 1, parts, matches);
            } else {
                Spot spot = pattern.spots[i];
                for (int n = 0; n < 12; n++) {
                    if (nodes[n] != null && (spot.labels >> nodes[n].label & 1) == 1
                            && within(nodes[n].value, spot.least, spot.greatest)) {
                        parts[i] = n;
                        chooseNode(pattern, i + 1, parts, matches);
                    }
                }
            }
        }

        boolean nodesMatch(Pattern pattern, int[] parts) {
            for (int i = 0; i < 4; i++) {
                for (int h = 0; h < i; h++) {
                    if (pattern.mode % 2 == 1 && parts[i] >= 0 && parts[i] == parts[h]) {
                        return false;
                    }
                }
            }
            for (Link link : pattern.links) {
                if (link != null && link.kind == 1 && !isWay(parts[link.a], parts[link.b], link.types, 3)) {
                    return false;
                }
            }
            return true;
        }

        void chooseEdge(Pattern pattern, int j, int[] parts, Matches matches) {
            if (j == 4) {
                addMatch(pattern, parts, matches);
                return;
            }
            Link link = pattern.links[j];
            if (link == null || link.kind == 1) {
                parts[4 + j] = -1;
                chooseEdge(pattern, j + 1, parts, matches);
                return;
            }
            for (int e = 0; e < 20; e++) {
                if (edges[e] != null && edges[e].from == parts[link.a] && edges[e].to == parts[link.b]
                        && (link.types >> edges[e].type & 1) == 1) {
                    parts[4 + j] = e;
                    chooseEdge(pattern, j + 1, parts, matches);
                }
            }
        }

        void addMatch(Pattern pattern, int[] parts, Matches matches) {
            int weight = 0;
            for (int p = 4; p < 8; p++) {
                for (int q = 4; q < p; q++) {
                    if (pattern.mode >= 2 && parts[p] >= 0 && parts[p] == parts[q]) {
                        return;
                    }
                }
                weight += parts[p] >= 0 ? edges[parts[p]].weight : 0;
            }
            matches.number++;
            matches.lightest = Math.min(matches.lightest, weight);
            matches.heaviest = Math.max(matches.heaviest, weight);
            if (matches.listed.size() < 1000) {
                matches.listed.add(parts.clone());
            }
        }
    }

    /** A number from 0 to below the bound. */
    private int pick(int bound) {
        seed = seed * 6364136223846793005L + 1442695040888963407L;
        return (int) ((seed >>> 33) % bound);
    }

    /** Mostly a number from least to greatest, now and then one beside them or far away. */
    private int about(int least, int greatest) {
        switch (pick(60)) {
            case 0:
                return least - 1;
            case 1:
                return greatest + 1;
            case 2:
                return new int[] {Integer.MIN_VALUE, Integer.MAX_VALUE, 32, 64, -32}[pick(5)];
            default:
                return least + pick(greatest - least + 1);
        }
    }

    /** Mostly a node that is there. */
    private int aNode() {
        int n = about(0, 11);
        for (int tries = 0; tries < 20 && !model.isNode(n); tries++) {
            n = pick(12);
        }
        return n;
    }

    private static int number(boolean answer) {
        return answer ? 1 : 0;
    }

    private boolean same(String call, int got, int want) {
        calls += call + " = " + want + "\n";
        if (got != want) {
            System.out.println(calls + "but the program answered " + got);
        }
        return got == want;
    }

    private boolean callOfNodesAndEdges(int kind, int mostNodes) {
        int a = aNode();
        int b = aNode();
        int label = about(0, 3);
        int value = pick(3) == 0 ? about(-99, 99) : about(-3, 3);
        int what = about(0, 62);
        int e = about(0, 19);
        int k = about(1, 3);
        int types = about(0, 7);
        int zeroOrOne = about(0, 1);
        switch (kind) {
            case 0:
                // A small graph stays small, so that its nodes have many edges.
                if (Integer.bitCount(model.nodes()) >= mostNodes && pick(10) != 0) {
                    return true;
                }
                return same("addNode(" + label + ", " + value + ")",
                    program.addNode(label, value), model.addNode(label, value));
            case 1:
                return same("setNode(" + a + ", " + label + ", " + value + ")",
                    number(program.setNode(a, label, value)), number(model.setNode(a, label, value)));
            case 2:
                return same("removeNode(" + a + ")", program.removeNode(a), model.removeNode(a));
            case 3:
                return same("addEdge(" + a + ", " + b + ", " + what + ")",
                    program.addEdge(a, b, what), model.addEdge(a, b, what));
            case 4:
                return same("removeEdge(" + e + ")", number(program.removeEdge(e)), number(model.removeEdge(e)));
            case 5:
                return same("degree(" + a + ", " + zeroOrOne + ")",
                    program.degree(a, zeroOrOne), model.degree(a, zeroOrOne));
            case 6:
                return same("reach(" + a + ", " + types + ", " + k + ")",
                    program.reach(a, types, k), model.reach(a, types, k));
            default:
                return same("nodes()", program.nodes(), model.nodes());
        }
    }

    private boolean callOfPatterns(int kind) {
        int mode = about(0, 3);
        int i = about(0, 3);
        int labels = pick(2) == 0 ? 15 : about(0, 15);
        int least = pick(2) == 0 ? -99 : about(-3, 3);
        int greatest = pick(2) == 0 ? 99 : about(-3, 3);
        int ab = about(0, 15);
        int types = pick(2) == 0 ? 7 : about(0, 7);
        int linkKind = pick(4) == 0 ? 1 : about(0, 1);
        int number = model.matches(model.hand).number;
        int k = pick(3) == 0 ? about(0, 999) : about(0, Math.min(number, 999));
        int part = about(0, 7);
        int what = about(0, 1);
        switch (kind) {
            case 0:
                return same("begin(" + mode + ")", number(program.begin(mode)), number(model.begin(mode)));
            case 1:
                return same("spot(" + i + ", " + labels + ", " + least + ", " + greatest + ")",
                    number(program.spot(i, labels, least, greatest)), number(model.spot(i, labels, least, greatest)));
            case 2:
                return same("link(" + i + ", " + ab + ", " + types + ", " + linkKind + ")",
                    number(program.link(i, ab, types, linkKind)), number(model.link(i, ab, types, linkKind)));
            case 3:
                return same("count()", program.count(), number);
            case 4:
                return same("part(" + k + ", " + part + ")", program.part(k, part), model.part(k, part));
            case 5:
                return same("weigh(" + what + ")", program.weigh(what), model.weigh(what));
            case 6:
                model.kept = model.hand.copy();
                return same("keep()", program.keep(), number);
            default:
                return same("kept()", program.kept(), model.matches(model.kept).number);
        }
    }

    private boolean run(int run) {
        seed = run * 7919L + 17;
        program = new GraphPatterns();
        model = new Model();
        calls = "run " + run + ":\n";
        int mostNodes = 1 + pick(12);
        // How often each call comes: first those of nodes and edges, then those of patterns.
        int[] often = {20, 4, run % 3, 30, 4, 3, 5, 1, 3, 14, 16, 12, 20, 10, 3, 6};
        int all = 0;
        for (int one : often) {
            all += one;
        }
        for (int call = 0; call < CALLS; call++) {
            int at = pick(all);
            int kind = 0;
            while (at >= often[kind]) {
                at -= often[kind];
                kind++;
            }
            if (!(kind < 8 ? callOfNodesAndEdges(kind, mostNodes) : callOfPatterns(kind - 8))) {
                return false;
            }
        }
        return true;
    }

    public static void main(String[] args) {
        ModelTest test = new ModelTest();
        for (int run = 0; run < RUNS; run++) {
            if (!test.run(run)) {
                System.exit(1);
            }
        }
        System.out.println("all answers are the model's");
    }
}
