/** One test a promise: ordinary inputs, the edges that the document names, and wrong inputs. */
public final class PromiseTest {
    private static final int BAD = GraphPatterns.BAD;
    private static final int FULL = GraphPatterns.FULL;
    private static final int MIN = Integer.MIN_VALUE;
    private static final int MAX = Integer.MAX_VALUE;
    private static int wrong = 0;

    private static void due(String what, int got, int want) {
        if (got != want) {
            wrong++;
            System.out.println(what + " answered " + got + ", due is " + want);
        }
    }

    private static void due(String what, boolean got, boolean want) {
        if (got != want) {
            wrong++;
            System.out.println(what + " answered " + got + ", due is " + want);
        }
    }

    private static GraphPatterns withNodes(int number) {
        GraphPatterns x = new GraphPatterns();
        for (int n = 0; n < number; n++) {
            x.addNode(0, 0);
        }
        return x;
    }

    private static int what(int type, int weight) {
        return type + 3 * weight;
    }

    private static int ab(int first, int second) {
        return first + 4 * second;
    }

    private static void anySpots(GraphPatterns x, int number) {
        for (int i = 0; i < number; i++) {
            due("spot " + i, x.spot(i, 15, MIN, MAX), true);
        }
    }

    /** All parts 0 .. 7 of match k as text, a dash for BAD. */
    private static String match(GraphPatterns x, int k) {
        StringBuilder text = new StringBuilder();
        for (int part = 0; part < 8; part++) {
            int answer = x.part(k, part);
            text.append(part == 0 ? "" : part == 4 ? " | " : " ").append(answer == BAD ? "-" : "" + answer);
        }
        return text.toString();
    }

    private static void dueMatches(String what, GraphPatterns x, String... matches) {
        due(what + " count", x.count(), matches.length);
        for (int k = 0; k <= matches.length; k++) {
            String want = k < matches.length ? matches[k] : "- - - - | - - - -";
            String got = match(x, k);
            if (!got.equals(want)) {
                wrong++;
                System.out.println(what + " match " + k + " is " + got + ", due is " + want);
            }
        }
    }

    private static void promise1NewObject() {
        GraphPatterns x = new GraphPatterns();
        due("1 nodes", x.nodes(), 0);
        due("1 removeEdge", x.removeEdge(0), false);
        due("1 count", x.count(), 1);
        due("1 kept", x.kept(), 1);
        due("1 part", x.part(0, 0), BAD);
        due("1 link without spots", x.link(0, 0, 7, 0), false);
        // Mode 0: two spots may share their node, two links their edge.
        x.addNode(0, 0);
        x.addEdge(0, 0, 0);
        due("1 kept does not ask for nodes", x.kept(), 1);
        anySpots(x, 2);
        x.link(0, ab(0, 1), 7, 0);
        x.link(1, ab(0, 1), 7, 0);
        due("1 mode 0", x.count(), 1);
        due("1 kept still empty", x.kept(), 1);
        due("1 another object", new GraphPatterns().nodes(), 0);
    }

    private static void promise2AddNode() {
        GraphPatterns x = new GraphPatterns();
        int[][] refused = {{-1, 0}, {4, 0}, {0, -100}, {0, 100}, {MIN, 0}, {MAX, 0}, {0, MIN}, {0, MAX}};
        for (int[] r : refused) {
            due("2 addNode out of range", x.addNode(r[0], r[1]), BAD);
        }
        due("2 nothing added", x.nodes(), 0);
        due("2 least label and value", x.addNode(0, -99), 0);
        due("2 greatest label and value", x.addNode(3, 99), 1);
        x.begin(0);
        x.spot(0, 1, -99, -99);
        x.spot(1, 8, 99, 99);
        dueMatches("2 label and value", x, "0 1 - - | - - - -");
        for (int n = 2; n < 12; n++) {
            due("2 next number", x.addNode(1, n), n);
        }
        due("2 full", x.addNode(0, 0), FULL);
        due("2 BAD before FULL", x.addNode(4, 0), BAD);
        due("2 BAD before FULL", x.addNode(0, 100), BAD);
        due("2 all nodes", x.nodes(), 4095);
        x.removeNode(7);
        x.removeNode(3);
        due("2 least free number", x.addNode(0, 0), 3);
        due("2 next free number", x.addNode(0, 0), 7);
        due("2 full again", x.addNode(0, 0), FULL);
    }

    private static void promise3SetNode() {
        GraphPatterns x = new GraphPatterns();
        due("3 no node", x.setNode(0, 0, 0), false);
        x.addNode(1, 10);
        x.addEdge(0, 0, 0);
        int[][] refused = {{1, 2, 20}, {-1, 2, 20}, {12, 2, 20}, {32, 2, 20}, {MIN, 2, 20}, {MAX, 2, 20},
            {0, -1, 20}, {0, 4, 20}, {0, 2, -100}, {0, 2, 100}, {0, MIN, 20}, {0, 2, MAX}};
        for (int[] r : refused) {
            due("3 setNode refused", x.setNode(r[0], r[1], r[2]), false);
        }
        due("3 no node made", x.nodes(), 1);
        x.spot(0, 2, 10, 10);
        due("3 unchanged", x.count(), 1);
        due("3 setNode", x.setNode(0, 2, 20), true);
        due("3 other label", x.count(), 0);
        x.spot(0, 4, 20, 20);
        due("3 new label and value", x.count(), 1);
        due("3 edges stay", x.degree(0, 0), 1);
        due("3 extremes", x.setNode(0, 3, -99) && x.setNode(0, 0, 99), true);
        x.removeNode(0);
        due("3 node gone", x.setNode(0, 2, 20), false);
    }

    private static void promise4RemoveNode() {
        GraphPatterns x = withNodes(3);
        int[] refused = {-1, 3, 11, 12, 32, MIN, MAX};
        for (int n : refused) {
            due("4 no node " + n, x.removeNode(n), BAD);
        }
        x.addEdge(0, 1, 0);
        x.addEdge(1, 0, 1);
        x.addEdge(1, 1, 2);
        x.addEdge(2, 0, 3);
        x.addEdge(0, 2, 4);
        due("4 a loop is one edge", x.removeNode(1), 3);
        due("4 nodes left", x.nodes(), 5);
        due("4 edges left from 0", x.degree(0, 0), 1);
        due("4 edges left to 0", x.degree(0, 1), 1);
        due("4 edge 0 gone", x.removeEdge(0), false);
        due("4 edge 2 gone", x.removeEdge(2), false);
        due("4 edge 3 stays", x.removeEdge(3), true);
        due("4 twice", x.removeNode(1), BAD);
        due("4 number free", x.addNode(0, 0), 1);
        due("4 new node has no edges", x.degree(1, 0) + x.degree(1, 1), 0);
        due("4 without edges", x.removeNode(1), 0);
        due("4 edge numbers are free", x.addEdge(0, 0, 0), 0);
    }

    private static void promise5AddEdge() {
        GraphPatterns x = withNodes(2);
        int[][] refused = {{2, 0, 0}, {0, 2, 0}, {-1, 0, 0}, {0, -1, 0}, {12, 0, 0}, {0, 12, 0}, {32, 0, 0},
            {0, MIN, 0}, {MAX, 0, 0}, {0, 0, -1}, {0, 0, 63}, {0, 0, MIN}, {0, 0, MAX}};
        for (int[] r : refused) {
            due("5 refused", x.addEdge(r[0], r[1], r[2]), BAD);
        }
        due("5 none added", x.degree(0, 0) + x.degree(0, 1), 0);
        due("5 greatest", x.addEdge(0, 1, 62), 0);
        due("5 least", x.addEdge(0, 1, 0), 1);
        due("5 from 0", x.degree(0, 0), 2);
        due("5 to 1", x.degree(1, 1), 2);
        due("5 type 2", x.reach(0, 4, 1), 2);
        due("5 type 0", x.reach(0, 1, 1), 2);
        due("5 not type 1", x.reach(0, 2, 1), 0);
        anySpots(x, 2);
        x.link(0, ab(0, 1), 4, 0);
        due("5 weight 20", x.weigh(0), 20);
        x.link(0, ab(0, 1), 1, 0);
        due("5 weight 0", x.weigh(1), 0);
        for (int e = 2; e < 20; e++) {
            due("5 next number", x.addEdge(1, 1, 1), e);
        }
        due("5 full", x.addEdge(0, 0, 0), FULL);
        due("5 BAD before FULL, node", x.addEdge(0, 5, 0), BAD);
        due("5 BAD before FULL, what", x.addEdge(0, 0, 63), BAD);
        x.removeEdge(9);
        x.removeEdge(4);
        due("5 least free number", x.addEdge(0, 0, 0), 4);
        due("5 next free number", x.addEdge(0, 0, 0), 9);
    }

    private static void promise6RemoveEdge() {
        GraphPatterns x = withNodes(2);
        x.addEdge(0, 1, what(1, 5));
        x.addEdge(0, 1, what(1, 7));
        int[] refused = {-1, 2, 19, 20, 32, 33, MIN, MAX};
        for (int e : refused) {
            due("6 no edge " + e, x.removeEdge(e), false);
        }
        due("6 none taken", x.degree(0, 0), 2);
        due("6 removeEdge", x.removeEdge(0), true);
        due("6 twice", x.removeEdge(0), false);
        due("6 other edge stays", x.degree(0, 0), 1);
        due("6 and goes there", x.reach(0, 2, 1), 2);
        due("6 removeEdge", x.removeEdge(1), true);
        due("6 no way", x.reach(0, 7, 3), 0);
        // The number comes back with another type, and nothing of the old one.
        due("6 number free", x.addEdge(1, 0, what(0, 3)), 0);
        due("6 new type", x.reach(1, 1, 1), 1);
        due("6 not the old type", x.reach(1, 6, 1), 0);
        due("6 not the old place", x.degree(0, 0), 0);
        for (int old = 0; old < 3; old++) {
            x.removeEdge(0);
            x.addEdge(0, 1, what(old, 0));
            x.removeEdge(0);
            x.addEdge(0, 1, what((old + 1) % 3, 0));
            due("6 no longer type " + old, x.reach(0, 1 << old, 1), 0);
        }
    }

    private static void promise7Degree() {
        GraphPatterns x = withNodes(3);
        x.addEdge(0, 1, 0);
        x.addEdge(0, 1, 0);
        x.addEdge(0, 0, 5);
        x.addEdge(2, 0, 5);
        due("7 from 0", x.degree(0, 0), 3);
        due("7 to 0", x.degree(0, 1), 2);
        due("7 from 1", x.degree(1, 0), 0);
        due("7 to 1", x.degree(1, 1), 2);
        due("7 from 2", x.degree(2, 0), 1);
        int[][] refused = {{3, 0}, {-1, 0}, {12, 1}, {32, 0}, {MIN, 0}, {MAX, 1}, {0, -1}, {0, 2}, {0, MIN}, {0, MAX}};
        for (int[] r : refused) {
            due("7 refused", x.degree(r[0], r[1]), BAD);
        }
    }

    private static void promise8Reach() {
        GraphPatterns x = withNodes(6);
        x.addEdge(0, 1, what(0, 1));
        x.addEdge(1, 2, what(1, 1));
        x.addEdge(2, 3, what(2, 1));
        x.addEdge(3, 4, what(0, 1));
        due("8 one edge", x.reach(0, 7, 1), 2);
        due("8 two edges", x.reach(0, 7, 2), 6);
        due("8 three edges", x.reach(0, 7, 3), 14);
        due("8 without type 2", x.reach(0, 3, 3), 6);
        due("8 without type 0", x.reach(0, 6, 3), 0);
        due("8 no types", x.reach(0, 0, 3), 0);
        due("8 no edges", x.reach(5, 7, 3), 0);
        due("8 not backwards", x.reach(4, 7, 3), 0);
        x.addEdge(2, 0, what(1, 1));
        due("8 itself by a round of three", x.reach(0, 7, 3), 15);
        due("8 not itself by fewer", x.reach(0, 7, 2), 6);
        x.addEdge(5, 5, 0);
        due("8 itself by a loop", x.reach(5, 1, 1), 32);
        int[][] refused = {{6, 7, 1}, {-1, 7, 1}, {12, 7, 1}, {32, 7, 1}, {MAX, 7, 1}, {0, -1, 1}, {0, 8, 1},
            {0, MIN, 1}, {0, 7, 0}, {0, 7, 4}, {0, 7, -1}, {0, 7, MAX}};
        for (int[] r : refused) {
            due("8 refused", x.reach(r[0], r[1], r[2]), BAD);
        }
    }

    private static void promise9Nodes() {
        GraphPatterns x = withNodes(12);
        due("9 twelve", x.nodes(), 4095);
        x.removeNode(0);
        x.removeNode(11);
        due("9 ten", x.nodes(), 2046);
        due("9 once more", x.nodes(), 2046);
    }

    private static void promise10Begin() {
        GraphPatterns x = withNodes(3);
        x.addEdge(0, 0, 0);
        x.begin(0);
        anySpots(x, 2);
        x.link(0, ab(0, 1), 7, 0);
        due("10 before", x.count(), 1);
        int[] refused = {-1, 4, MIN, MAX};
        for (int mode : refused) {
            due("10 mode " + mode, x.begin(mode), false);
            due("10 unchanged", x.count(), 1);
        }
        due("10 begin", x.begin(1), true);
        due("10 no spots", x.count(), 1);
        due("10 no spot 0", x.part(0, 0), BAD);
        due("10 no spots for a link", x.link(0, ab(0, 1), 7, 0), false);
        anySpots(x, 2);
        due("10 no links, mode 1", x.count(), 6);
        due("10 no link 0", x.part(0, 4), BAD);
        due("10 begin", x.begin(2), true);
        anySpots(x, 2);
        due("10 mode 2", x.count(), 9);
        due("10 nodes stay", x.nodes(), 7);
    }

    private static void modesDiffer() {
        int[] fork = {9, 4, 6, 4};
        int[] parallel = {5, 5, 2, 2};
        for (int mode = 0; mode < 4; mode++) {
            GraphPatterns x = withNodes(3);
            x.addEdge(0, 1, 0);
            x.addEdge(0, 1, 0);
            x.addEdge(0, 2, 0);
            x.begin(mode);
            anySpots(x, 3);
            x.link(0, ab(0, 1), 7, 0);
            x.link(1, ab(0, 2), 7, 0);
            due("10 a fork in mode " + mode, x.count(), fork[mode]);
            x.begin(mode);
            anySpots(x, 2);
            x.link(0, ab(0, 1), 7, 0);
            x.link(3, ab(0, 1), 7, 0);
            due("10 parallel links in mode " + mode, x.count(), parallel[mode]);
        }
    }

    private static void promise11Spot() {
        GraphPatterns x = new GraphPatterns();
        x.addNode(0, -99);
        x.addNode(1, 0);
        x.addNode(2, 5);
        x.addNode(3, 99);
        int[][] refused = {{-1, 15}, {4, 15}, {MIN, 15}, {MAX, 15}, {0, -1}, {0, 16}, {0, MIN}, {0, MAX}};
        for (int[] r : refused) {
            due("11 refused", x.spot(r[0], r[1], 0, 0), false);
        }
        due("11 no spots", x.count(), 1);
        due("11 spot", x.spot(3, 15, MIN, MAX), true);
        dueMatches("11 all", x, "- - - 0 | - - - -", "- - - 1 | - - - -", "- - - 2 | - - - -", "- - - 3 | - - - -");
        x.spot(3, 10, MIN, MAX);
        dueMatches("11 labels 1 and 3", x, "- - - 1 | - - - -", "- - - 3 | - - - -");
        x.spot(3, 15, 0, 5);
        dueMatches("11 values 0 .. 5", x, "- - - 1 | - - - -", "- - - 2 | - - - -");
        x.spot(3, 15, 1, 4);
        dueMatches("11 values 1 .. 4", x);
        x.spot(3, 15, 5, 0);
        dueMatches("11 least above greatest", x);
        x.spot(3, 0, MIN, MAX);
        dueMatches("11 no labels", x);
        x.spot(3, 15, MAX, MIN);
        dueMatches("11 extremes turned round", x);
        x.spot(3, 15, -99, -99);
        due("11 refused", x.spot(3, 16, 0, 0), false);
        dueMatches("11 unchanged by a refusal", x, "- - - 0 | - - - -");
        // A spot that is given anew keeps its links.
        x.addEdge(0, 1, 0);
        x.addEdge(0, 2, 0);
        x.spot(0, 15, MIN, MAX);
        x.link(2, ab(3, 0), 7, 0);
        due("11 with a link", x.count(), 2);
        x.spot(0, 4, MIN, MAX);
        dueMatches("11 link stays", x, "2 - - 0 | - - 1 -");
    }

    private static void promise12Link() {
        GraphPatterns x = withNodes(3);
        x.addEdge(0, 1, what(0, 0));
        x.addEdge(1, 2, what(1, 0));
        x.addEdge(0, 2, what(2, 0));
        x.spot(0, 15, 0, 0);
        x.spot(3, 15, 0, 0);
        int[][] refused = {{-1, 12, 7, 0}, {4, 12, 7, 0}, {MIN, 12, 7, 0}, {MAX, 12, 7, 0}, {0, -1, 7, 0},
            {0, 16, 7, 0}, {0, MIN, 7, 0}, {0, MAX, 7, 0}, {0, -4, 7, 0}, {0, ab(0, 1), 7, 0}, {0, ab(1, 0), 7, 0},
            {0, ab(1, 2), 7, 0}, {0, 12, -1, 0}, {0, 12, 8, 0}, {0, 12, MAX, 0}, {0, 12, 7, -1}, {0, 12, 7, 2},
            {0, 12, 7, MIN}};
        for (int[] r : refused) {
            due("12 refused", x.link(r[0], r[1], r[2], r[3]), false);
        }
        due("12 no links", x.count(), 9);
        due("12 link", x.link(0, ab(0, 3), 7, 0), true);
        dueMatches("12 forward", x, "0 - - 1 | 0 - - -", "0 - - 2 | 2 - - -", "1 - - 2 | 1 - - -");
        due("12 link", x.link(0, ab(3, 0), 6, 0), true);
        dueMatches("12 backward, types 1 and 2", x, "2 - - 0 | 2 - - -", "2 - - 1 | 1 - - -");
        for (int[] r : refused) {
            due("12 refused", x.link(r[0], r[1], r[2], r[3]), false);
        }
        due("12 unchanged by a refusal", x.count(), 2);
        x.link(0, ab(0, 3), 0, 0);
        due("12 no types, an edge", x.count(), 0);
        x.link(0, ab(0, 3), 0, 1);
        due("12 no types, a way", x.count(), 0);
        x.link(0, ab(0, 0), 7, 0);
        due("12 no loop", x.count(), 0);
        x.addEdge(1, 1, 0);
        dueMatches("12 a loop", x, "1 - - 0 | 3 - - -", "1 - - 1 | 3 - - -", "1 - - 2 | 3 - - -");
        x.link(0, ab(0, 0), 7, 1);
        dueMatches("12 a way to itself", x, "1 - - 0 | - - - -", "1 - - 1 | - - - -", "1 - - 2 | - - - -");
    }

    private static void waysAreNotCounted() {
        GraphPatterns x = withNodes(5);
        for (int n = 0; n < 4; n++) {
            x.addEdge(n, n + 1, what(n % 2, 20));
            x.addEdge(n, n + 1, what(n % 2, 20));
        }
        x.begin(0);
        anySpots(x, 2);
        x.link(1, ab(0, 1), 7, 1);
        dueMatches("12 ways of one to three edges", x,
            "0 1 - - | - - - -", "0 2 - - | - - - -", "0 3 - - | - - - -", "1 2 - - | - - - -", "1 3 - - | - - - -",
            "1 4 - - | - - - -", "2 3 - - | - - - -", "2 4 - - | - - - -", "3 4 - - | - - - -");
        due("12 a way weighs nothing", x.weigh(1), 0);
        x.link(1, ab(0, 1), 2, 1);
        dueMatches("12 all types of the way", x, "1 2 - - | - - - -", "3 4 - - | - - - -");
        // A way may use the edge of a link, even where links have different edges.
        x = withNodes(2);
        x.addEdge(0, 1, 0);
        x.begin(3);
        anySpots(x, 2);
        x.link(0, ab(0, 1), 7, 0);
        x.link(1, ab(0, 1), 7, 1);
        dueMatches("12 way over the edge of a link", x, "0 1 - - | 0 - - -");
    }

    private static void promise13Count() {
        GraphPatterns x = withNodes(12);
        due("13 no spots", x.count(), 1);
        anySpots(x, 4);
        due("13 twelve nodes on four spots", x.count(), 20736);
        x.begin(1);
        anySpots(x, 4);
        due("13 different nodes", x.count(), 11880);
        for (int i = 0; i < 4; i++) {
            for (int h = 0; h < i; h++) {
                x.begin(3);
                x.spot(h, 15, MIN, MAX);
                x.spot(i, 15, MIN, MAX);
                due("13 different nodes on the spots " + h + " and " + i, x.count(), 132);
            }
        }
        for (int e = 0; e < 20; e++) {
            x.addEdge(5, 5, 2);
        }
        int[] fourLinks = {1728 * 160000, 990 * 160000, 1728 * 116280, 990 * 116280};
        for (int mode = 0; mode < 4; mode++) {
            x.begin(mode);
            anySpots(x, 4);
            for (int j = 0; j < 4; j++) {
                x.link(j, ab(3, 3), 4, 0);
            }
            due("13 most matches in mode " + mode, x.count(), fourLinks[mode]);
            due("13 kept in mode " + mode, x.keep(), fourLinks[mode]);
        }
        x.begin(2);
        anySpots(x, 1);
        x.link(0, 0, 4, 0);
        x.link(3, 0, 6, 0);
        due("13 two links", x.count(), 380);
        x.link(3, 0, 3, 0);
        due("13 a link without an edge", x.count(), 0);
    }

    private static void promise14Part() {
        GraphPatterns x = withNodes(3);
        x.addEdge(2, 1, what(0, 1));
        x.addEdge(0, 1, what(1, 1));
        x.addEdge(0, 1, what(0, 1));
        x.addEdge(1, 2, what(0, 1));
        x.begin(0);
        anySpots(x, 3);
        x.link(3, ab(0, 1), 7, 0);
        x.link(1, ab(2, 1), 7, 0);
        dueMatches("14 dictionary order", x,
            "0 1 0 - | - 1 - 1", "0 1 0 - | - 1 - 2", "0 1 0 - | - 2 - 1", "0 1 0 - | - 2 - 2",
            "0 1 2 - | - 0 - 1", "0 1 2 - | - 0 - 2", "1 2 1 - | - 3 - 3",
            "2 1 0 - | - 1 - 0", "2 1 0 - | - 2 - 0", "2 1 2 - | - 0 - 0");
        int[][] refused = {{-1, 0}, {10, 0}, {1000, 0}, {MIN, 0}, {MAX, 0}, {0, 3}, {0, 4}, {0, 6}, {0, -1}, {0, 8},
            {0, MIN}, {0, MAX}, {0, 32}};
        for (int[] r : refused) {
            due("14 refused", x.part(r[0], r[1]), BAD);
        }
        x.link(1, ab(2, 1), 7, 1);
        due("14 an edge", x.part(0, 7), 1);
        due("14 a way has no edge", x.part(0, 5), BAD);
        due("14 nor with the list at its end", x.part(x.count(), 7), BAD);
        x = withNodes(12);
        anySpots(x, 4);
        due("14 match 999, spot 0", x.part(999, 0), 0);
        due("14 match 999, spot 1", x.part(999, 1), 6);
        due("14 match 999, spot 2", x.part(999, 2), 11);
        due("14 match 999, spot 3", x.part(999, 3), 3);
        due("14 match 1000 is there", x.count() > 1000, true);
        due("14 match 1000 is not told", x.part(1000, 0), BAD);
        distinctEdgesAreListed();
    }

    private static void distinctEdgesAreListed() {
        GraphPatterns x = withNodes(2);
        for (int e = 0; e < 4; e++) {
            x.addEdge(0, 1, what(0, e));
        }
        x.begin(3);
        anySpots(x, 2);
        x.link(0, ab(0, 1), 7, 0);
        x.link(2, ab(0, 1), 7, 0);
        dueMatches("14 different edges", x,
            "0 1 - - | 0 - 1 -", "0 1 - - | 0 - 2 -", "0 1 - - | 0 - 3 -", "0 1 - - | 1 - 0 -",
            "0 1 - - | 1 - 2 -", "0 1 - - | 1 - 3 -", "0 1 - - | 2 - 0 -", "0 1 - - | 2 - 1 -",
            "0 1 - - | 2 - 3 -", "0 1 - - | 3 - 0 -", "0 1 - - | 3 - 1 -", "0 1 - - | 3 - 2 -");
        x.link(1, ab(0, 1), 7, 0);
        x.link(3, ab(0, 1), 7, 0);
        due("14 all four", x.count(), 24);
        due("14 the last one begins with", x.part(23, 4), 3);
        due("14 and ends with", x.part(23, 7), 0);
    }

    private static void promise15Weigh() {
        GraphPatterns x = withNodes(3);
        due("15 no spots, least", x.weigh(0), 0);
        due("15 no spots, greatest", x.weigh(1), 0);
        int[] refused = {-1, 2, MIN, MAX};
        for (int what : refused) {
            due("15 what " + what, x.weigh(what), BAD);
        }
        anySpots(x, 2);
        due("15 no links", x.weigh(1), 0);
        x.link(0, ab(0, 1), 7, 0);
        due("15 no match, least", x.weigh(0), BAD);
        due("15 no match, greatest", x.weigh(1), BAD);
        x.addEdge(0, 1, what(1, 4));
        x.addEdge(0, 1, what(2, 20));
        x.addEdge(0, 1, what(0, 0));
        x.addEdge(1, 2, what(1, 9));
        due("15 least", x.weigh(0), 0);
        due("15 greatest", x.weigh(1), 20);
        x.link(0, ab(0, 1), 2, 0);
        due("15 least of type 1", x.weigh(0), 4);
        due("15 greatest of type 1", x.weigh(1), 9);
        x.link(0, ab(0, 1), 7, 0);
        x.link(1, ab(0, 1), 7, 0);
        x.link(2, ab(0, 1), 7, 0);
        x.link(3, ab(0, 1), 7, 0);
        due("15 an edge of four links counts four times", x.weigh(1), 80);
        due("15 least of four links", x.weigh(0), 0);
        x.begin(2);
        anySpots(x, 2);
        x.link(0, ab(0, 1), 7, 0);
        x.link(3, ab(0, 1), 7, 0);
        due("15 least of different edges", x.weigh(0), 4);
        due("15 greatest of different edges", x.weigh(1), 24);
        x.link(1, ab(0, 1), 7, 0);
        due("15 all three edges", x.weigh(0), 24);
        x.link(2, ab(0, 1), 7, 0);
        due("15 a fourth is missing", x.weigh(0), BAD);
        x.link(2, ab(0, 1), 7, 1);
        due("15 a way instead", x.weigh(0), 24);
        for (int j = 0; j < 4; j++) {
            x.begin(0);
            anySpots(x, 2);
            x.link(j, ab(0, 1), 2, 0);
            due("15 least of link " + j + " alone", x.weigh(0), 4);
            due("15 greatest of link " + j + " alone", x.weigh(1), 9);
        }
    }

    private static void promise16Keep() {
        GraphPatterns x = withNodes(2);
        x.addEdge(0, 1, 0);
        x.addEdge(0, 1, 1);
        x.begin(3);
        anySpots(x, 2);
        x.link(0, ab(0, 1), 7, 0);
        x.link(2, ab(0, 1), 7, 0);
        due("16 keep", x.keep(), 2);
        due("16 still at hand", x.count(), 2);
        dueMatches("16 parts at hand", x, "0 1 - - | 0 - 1 -", "0 1 - - | 1 - 0 -");
        x.link(0, ab(0, 1), 1, 0);
        due("16 changed at hand", x.count(), 1);
        due("16 kept is another", x.kept(), 2);
        x.spot(0, 0, 0, 0);
        due("16 spot changed at hand", x.count(), 0);
        due("16 kept spot is another", x.kept(), 2);
        x.begin(0);
        due("16 kept has its mode and links", x.kept(), 2);
        x.spot(1, 15, MIN, MAX);
        due("16 keep another", x.keep(), 2);
        x.addNode(0, 0);
        due("16 kept follows the nodes", x.kept(), 3);
        x.begin(0);
        due("16 keep one without spots", x.keep(), 1);
        everythingIsKept();
    }

    /** Keeps one spot, or two and a link, and lets what is at hand become another in each respect. */
    private static void everythingIsKept() {
        GraphPatterns x = new GraphPatterns();
        for (int n = 0; n < 12; n++) {
            x.addNode(n % 4, n);
        }
        for (int n = 0; n < 4; n++) {
            x.addEdge(n, n + 1, n % 3);
        }
        for (int i = 0; i < 4; i++) {
            x.begin(0);
            x.spot(i, 3, 4, 9);
            due("16 nodes 4, 5, 8 and 9 on spot " + i, x.keep(), 4);
            x.spot(i, 15, MIN, MAX);
            due("16 kept spot " + i, x.kept(), 4);
            x.begin(0);
            anySpots(x, 4);
            x.link(i, ab(i, (i + 1) % 4), 3, 1);
            // Types 0 and 1 are those of all edges but that of 2 to 3: 0-1, 1-2, 0-2 and 3-4.
            due("16 way of link " + i, x.keep(), 4 * 144);
            x.link(i, ab((i + 2) % 4, i), 1, 0);
            due("16 kept link " + i, x.kept(), 4 * 144);
            due("16 edge of link " + i, x.keep(), 2 * 144);
            x.addEdge(0, 1, 0);
            due("16 one edge more", x.kept(), 3 * 144);
            x.removeEdge(4);
        }
    }

    private static void promise17Kept() {
        GraphPatterns x = new GraphPatterns();
        due("17 new", x.kept(), 1);
        x.spot(2, 2, 5, 9);
        due("17 not yet kept", x.kept(), 1);
        due("17 keep", x.keep(), 0);
        x.addNode(1, 5);
        x.addNode(1, 9);
        x.addNode(1, 10);
        x.addNode(0, 7);
        due("17 two nodes", x.kept(), 2);
        x.setNode(3, 1, 7);
        due("17 three nodes", x.kept(), 3);
        x.removeNode(0);
        due("17 two again", x.kept(), 2);
        due("17 at hand too", x.count(), 2);
        due("17 a refused begin", x.begin(4), false);
        due("17 changes nothing", x.kept(), 2);
        x.begin(1);
        due("17 begin leaves it", x.kept(), 2);
    }

    /** Every answer that tells of the state, as one text. */
    private static String state(GraphPatterns x) {
        StringBuilder text = new StringBuilder();
        text.append(x.nodes()).append(' ').append(x.count()).append(' ').append(x.kept());
        text.append(' ').append(x.weigh(0)).append(' ').append(x.weigh(1));
        for (int n = 0; n < 12; n++) {
            text.append(' ').append(x.degree(n, 0)).append(' ').append(x.degree(n, 1));
            text.append(' ').append(x.reach(n, 5, 2));
        }
        for (int k = 0; k < 3; k++) {
            text.append(" [").append(match(x, k)).append(']');
        }
        return text.toString();
    }

    private static void promise18RefusedChangesNothing() {
        GraphPatterns x = withNodes(12);
        for (int e = 0; e < 20; e++) {
            x.addEdge(e % 12, (e + (e < 12 ? 1 : 3)) % 12, e * 3 % 63);
        }
        x.begin(3);
        anySpots(x, 3);
        x.link(0, ab(0, 1), 7, 0);
        x.keep();
        x.link(1, ab(1, 2), 7, 0);
        String before = state(x);
        due("18 addNode", x.addNode(0, 0), FULL);
        due("18 addNode", x.addNode(0, 100), BAD);
        due("18 setNode", x.setNode(12, 1, 1), false);
        due("18 setNode", x.setNode(0, 1, 100), false);
        due("18 setNode", x.setNode(0, 4, 1), false);
        due("18 removeNode", x.removeNode(12), BAD);
        due("18 addEdge", x.addEdge(0, 0, 0), FULL);
        due("18 addEdge", x.addEdge(0, 12, 0), BAD);
        due("18 addEdge", x.addEdge(0, 0, 63), BAD);
        due("18 removeEdge", x.removeEdge(20), false);
        due("18 degree", x.degree(0, 2), BAD);
        due("18 reach", x.reach(0, 8, 1), BAD);
        due("18 begin", x.begin(4), false);
        due("18 spot", x.spot(0, 16, 0, 0), false);
        due("18 spot", x.spot(4, 0, 0, 0), false);
        due("18 link", x.link(0, ab(0, 3), 0, 0), false);
        due("18 link", x.link(0, ab(0, 1), 8, 0), false);
        due("18 link", x.link(0, ab(0, 1), 0, 2), false);
        due("18 part", x.part(1000, 0), BAD);
        due("18 weigh", x.weigh(2), BAD);
        String after = state(x);
        due("18 state is as before", after.equals(before), true);
        due("18 there are matches", x.count() > 3 && x.kept() > 3, true);
    }

    public static void main(String[] args) {
        due("BAD", BAD, -1);
        due("FULL", FULL, -2);
        promise1NewObject();
        promise2AddNode();
        promise3SetNode();
        promise4RemoveNode();
        promise5AddEdge();
        promise6RemoveEdge();
        promise7Degree();
        promise8Reach();
        promise9Nodes();
        promise10Begin();
        modesDiffer();
        promise11Spot();
        promise12Link();
        waysAreNotCounted();
        promise13Count();
        promise14Part();
        promise15Weigh();
        promise16Keep();
        promise17Kept();
        promise18RefusedChangesNothing();
        System.out.println(wrong == 0 ? "all answers are as due" : wrong + " answers are not as due");
        if (wrong != 0) {
            System.exit(1);
        }
    }
}
