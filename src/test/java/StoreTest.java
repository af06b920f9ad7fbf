/** The sentences of the promises 1 to 9 that name a boundary case, a test for each. */
public final class StoreTest {
    /** A node 0 of label 1 and value 10, and the pattern that finds just such nodes. */
    private static Run oneNode() {
        Run x = new Run();
        x.addNode(1, 10).is(0);
        x.spot(0, 2, 10, 10).isTrue();
        return x;
    }

    /** Node 0 with twenty edges to itself; node 1 was there and is gone. */
    private static Run fullOfEdges() {
        Run x = Run.withNodes(3);
        x.removeNode(1).is(0);
        for (int e = 0; e < 20; e++) {
            x.addEdge(0, 0, 0).is(e);
        }
        return x;
    }

    private static void newHasNoNodes() {
        Run x = new Run();
        x.nodes().is(0);
        for (int n = 0; n < 12; n++) {
            x.removeNode(n).isBad();
            x.setNode(n, 0, 0).isFalse();
            x.degree(n, 0).isBad();
            x.degree(n, 1).isBad();
            x.reach(n, 7, 3).isBad();
            x.addEdge(n, n, 0).isBad();
        }
        x.anySpots(1);
        x.count().is(0);
        x.addNode(0, 0).is(0);
    }

    private static void newHasNoEdges() {
        Run x = new Run();
        for (int e = 0; e < 20; e++) {
            x.removeEdge(e).isFalse();
        }
        x.addNode(0, 0).is(0);
        x.degree(0, 0).is(0);
        x.degree(0, 1).is(0);
        x.addEdge(0, 0, 0).is(0);
    }

    private static void newHasNoSpots() {
        Run x = new Run();
        x.count().is(1);
        x.kept().is(1);
        x.weighs(0, 0);
        for (int i = 0; i < 4; i++) {
            x.part(0, i).isBad();
            x.link(0, 5 * i, 7, 0).isFalse();
        }
        x.addNode(0, 0).is(0);
        x.addNode(0, 0).is(1);
        x.count().is(1);
        x.kept().is(1);
    }

    private static void newHasNoLinks() {
        Run x = Run.withNodes(2);
        x.anySpots(4);
        x.count().is(16);
        for (int part = 4; part < 8; part++) {
            x.part(0, part).isBad();
        }
        x.weighs(0, 0);
    }

    private static void newHasMode0() {
        Run x = Run.withNodes(1);
        x.edge(0, 0, 0, 5).is(0);
        x.anySpots(2);
        x.edgeLink(0, 0, 1, 7);
        x.edgeLink(1, 0, 1, 7);
        x.matchesAre("0 0 - - | 0 0 - -");
        x.weighs(10, 10);
        x.keep().is(1);
    }

    private static void newIsItsOwn() {
        Run old = Run.withNodes(12);
        for (int e = 0; e < 20; e++) {
            old.addEdge(e % 12, (e + 1) % 12, e).is(e);
        }
        old.begin(3).isTrue();
        old.anySpots(2);
        old.edgeLink(0, 0, 1, 7);
        old.keep().is(20);
        newHasNoNodes();
        newHasNoEdges();
        newHasNoSpots();
        newHasNoLinks();
        newHasMode0();
        old.nodes().is(4095);
        old.kept().is(20);
        old.count().is(20);
    }

    private static void leastNodeNumber() {
        Run x = Run.withNodes(12);
        x.removeNode(11).is(0);
        x.removeNode(0).is(0);
        x.removeNode(5).is(0);
        x.addNode(0, 0).is(0);
        x.addNode(0, 0).is(5);
        x.addNode(0, 0).is(11);
        x.addNode(0, 0).isFull();
        x.removeNode(3).is(0);
        x.addNode(0, 0).is(3);
    }

    private static void aNumberGivenAnewIsNew() {
        Run x = oneNode();
        x.addEdge(0, 0, 0).is(0);
        x.removeNode(0).is(1);
        x.addNode(2, 20).is(0);
        x.count().is(0);
        x.degree(0, 0).is(0);
        x.degree(0, 1).is(0);
        x.reach(0, 7, 3).is(0);
        x.spot(0, 4, 20, 20).isTrue();
        x.count().is(1);
    }

    private static void addNodeLabelOutOfRange() {
        Run x = new Run();
        x.anySpots(1);
        for (int label : Run.outside(0, 3)) {
            x.addNode(label, 0).isBad();
        }
        x.nodes().is(0);
        x.count().is(0);
        for (int label = 0; label < 4; label++) {
            x.addNode(label, 0).is(label);
        }
    }

    private static void addNodeValueOutOfRange() {
        Run x = new Run();
        x.anySpots(1);
        for (int value : Run.outside(-99, 99)) {
            x.addNode(0, value).isBad();
        }
        x.nodes().is(0);
        x.count().is(0);
        x.addNode(0, -99).is(0);
        x.addNode(0, 99).is(1);
    }

    private static void addNodeBothOutOfRange() {
        Run x = new Run();
        x.addNode(4, 100).isBad();
        x.addNode(-1, -100).isBad();
        x.nodes().is(0);
    }

    private static void addNodeFull() {
        Run x = Run.withNodes(11);
        x.addNode(3, 99).is(11);
        x.addNode(0, 0).isFull();
        x.addNode(3, -99).isFull();
        x.spot(0, 8, 99, 99).isTrue();
        x.matchesAre("11 - - - | - - - -");
        x.removeNode(6).is(0);
        x.addNode(0, 0).is(6);
        x.addNode(0, 0).isFull();
    }

    private static void addNodeBadBeforeFull() {
        Run x = Run.withNodes(12);
        x.addNode(4, 0).isBad();
        x.addNode(-1, 0).isBad();
        x.addNode(0, 100).isBad();
        x.addNode(0, -100).isBad();
        x.addNode(Run.MAX, Run.MIN).isBad();
        x.addNode(0, 0).isFull();
        x.nodes().is(4095);
    }

    private static void setNodeSetsBoth() {
        Run x = oneNode();
        x.setNode(0, 1, 11).isTrue();
        x.count().is(0);
        x.setNode(0, 2, 10).isTrue();
        x.count().is(0);
        x.setNode(0, 1, 10).isTrue();
        x.count().is(1);
        x.setNode(0, 1, 10).isTrue();
        x.count().is(1);
        x.setNode(0, 0, -99).isTrue();
        x.spot(0, 1, -99, -99).isTrue();
        x.count().is(1);
        x.setNode(0, 3, 99).isTrue();
        x.spot(0, 8, 99, 99).isTrue();
        x.count().is(1);
    }

    private static void setNodeLeavesTheRest() {
        Run x = Run.withNodes(3);
        x.addEdge(0, 1, 0).is(0);
        x.addEdge(1, 1, 0).is(1);
        x.addEdge(2, 1, 0).is(2);
        x.setNode(1, 3, 9).isTrue();
        x.nodes().is(7);
        x.degree(1, 1).is(3);
        x.degree(1, 0).is(1);
        x.spot(0, 1, 0, 0).isTrue();
        x.matchesAre("0 - - - | - - - -", "2 - - - | - - - -");
    }

    private static void setNodeWithoutNode() {
        Run x = oneNode();
        for (int n : Run.outside(0, 0)) {
            x.setNode(n, 2, 20).isFalse();
        }
        for (int n = 1; n < 12; n++) {
            x.setNode(n, 2, 20).isFalse();
        }
        x.nodes().is(1);
        x.count().is(1);
        x.anySpots(1);
        x.count().is(1);
    }

    private static void setNodeOfAllTwelveOutOfRange() {
        Run x = Run.withNodes(12);
        for (int n : Run.outside(0, 11)) {
            x.setNode(n, 2, 20).isFalse();
        }
        x.spot(0, 1, 0, 0).isTrue();
        x.count().is(12);
    }

    private static void setNodeOfARemovedNode() {
        Run x = oneNode();
        x.removeNode(0).is(0);
        x.setNode(0, 1, 10).isFalse();
        x.nodes().is(0);
        x.count().is(0);
    }

    private static void setNodeLabelOutOfRange() {
        Run x = oneNode();
        for (int label : Run.outside(0, 3)) {
            x.setNode(0, label, 20).isFalse();
        }
        x.count().is(1);
    }

    private static void setNodeValueOutOfRange() {
        Run x = oneNode();
        for (int value : Run.outside(-99, 99)) {
            x.setNode(0, 2, value).isFalse();
        }
        x.count().is(1);
    }

    private static void removeNodeTakesEdges() {
        Run x = Run.withNodes(4);
        x.addEdge(0, 1, 0).is(0);
        x.addEdge(2, 3, 0).is(1);
        x.addEdge(1, 2, 0).is(2);
        x.addEdge(3, 0, 0).is(3);
        x.addEdge(1, 1, 0).is(4);
        x.addEdge(0, 0, 0).is(5);
        x.removeNode(1).is(3);
        x.nodes().is(13);
        x.degree(0, 0).is(1);
        x.degree(0, 1).is(2);
        x.degree(2, 1).is(0);
        x.reach(0, 7, 3).is(1);
        x.reach(2, 7, 3).is(9);
        x.anySpots(2);
        x.edgeLink(0, 0, 1, 7);
        x.matchesAre("0 0 - - | 5 - - -", "2 3 - - | 1 - - -", "3 0 - - | 3 - - -");
        for (int e = 0; e < 6; e += 2) {
            x.removeEdge(e).isFalse();
        }
        x.addEdge(0, 2, 0).is(0);
        x.addEdge(0, 2, 0).is(2);
        x.addEdge(0, 2, 0).is(4);
        x.addEdge(0, 2, 0).is(6);
    }

    private static void removeNodeCountsALoopOnce() {
        Run x = Run.withNodes(1);
        x.addEdge(0, 0, 0).is(0);
        x.removeNode(0).is(1);
    }

    private static void removeNodeWithoutEdges() {
        Run x = Run.withNodes(2);
        x.removeNode(1).is(0);
        x.addEdge(0, 0, 0).is(0);
        x.addNode(0, 0).is(1);
        x.removeNode(1).is(0);
        x.degree(0, 0).is(1);
    }

    private static void removeNodeWithTwentyEdges() {
        for (int n = 0; n < 12; n++) {
            Run x = Run.withNodes(12);
            for (int e = 0; e < 20; e++) {
                x.addEdge(e % 2 == 0 ? n : e % 12, e % 2 == 0 ? e % 12 : n, e).is(e);
            }
            x.removeNode(n).is(20);
            x.nodes().is(4095 - (1 << n));
            x.anySpots(2);
            x.edgeLink(0, 0, 1, 7);
            x.count().is(0);
            int other = n == 0 ? 1 : 0;
            for (int e = 0; e < 20; e++) {
                x.addEdge(other, other, 0).is(e);
            }
        }
    }

    private static void removeNodeLeavesItsPartners() {
        // The number comes back, but nothing goes from or to it any more.
        Run x = Run.withNodes(3);
        x.addEdge(0, 1, 0);
        x.addEdge(1, 2, 0);
        x.removeNode(1).is(2);
        x.addNode(0, 0).is(1);
        x.reach(0, 7, 3).is(0);
        x.degree(0, 0).is(0);
        x.degree(2, 1).is(0);
        x.degree(1, 0).is(0);
        x.degree(1, 1).is(0);
    }

    private static void removeNodeWithoutNode() {
        Run x = Run.withNodes(1);
        x.addEdge(0, 0, 0).is(0);
        for (int n : Run.outside(0, 0)) {
            x.removeNode(n).isBad();
        }
        for (int n = 1; n < 12; n++) {
            x.removeNode(n).isBad();
        }
        x.nodes().is(1);
        x.degree(0, 0).is(1);
        x.removeNode(0).is(1);
        x.removeNode(0).isBad();
    }

    private static void removeNodeOfAllTwelveOutOfRange() {
        Run x = Run.withNodes(12);
        for (int n : Run.outside(0, 11)) {
            x.removeNode(n).isBad();
        }
        x.nodes().is(4095);
    }

    private static void leastEdgeNumber() {
        Run x = Run.withNodes(1);
        for (int e = 0; e < 20; e++) {
            x.addEdge(0, 0, 0).is(e);
        }
        x.removeEdge(19).isTrue();
        x.removeEdge(0).isTrue();
        x.removeEdge(7).isTrue();
        x.addEdge(0, 0, 0).is(0);
        x.addEdge(0, 0, 0).is(7);
        x.addEdge(0, 0, 0).is(19);
        x.addEdge(0, 0, 0).isFull();
    }

    private static void whatIsTypeAndWeight() {
        for (int what = 0; what <= 62; what++) {
            Run x = Run.withNodes(2);
            x.addEdge(0, 1, what).is(0);
            x.anySpots(2);
            for (int type = 0; type < 3; type++) {
                x.reach(0, 1 << type, 1).is(what % 3 == type ? 2 : 0);
                x.edgeLink(0, 0, 1, 1 << type);
                x.count().is(what % 3 == type ? 1 : 0);
                int weight = what % 3 == type ? what / 3 : -1;
                x.weighs(weight, weight);
            }
        }
    }

    private static void addEdgeFromNoNode() {
        Run x = Run.withNodes(2);
        for (int n : Run.outside(0, 1)) {
            x.addEdge(n, 0, 0).isBad();
        }
        for (int n = 2; n < 12; n++) {
            x.addEdge(n, 0, 0).isBad();
        }
        x.degree(0, 1).is(0);
        x.addEdge(1, 0, 0).is(0);
    }

    private static void addEdgeToNoNode() {
        Run x = Run.withNodes(2);
        for (int n : Run.outside(0, 1)) {
            x.addEdge(0, n, 0).isBad();
        }
        for (int n = 2; n < 12; n++) {
            x.addEdge(0, n, 0).isBad();
        }
        x.degree(0, 0).is(0);
        x.addEdge(0, 1, 0).is(0);
    }

    private static void addEdgeOfAllTwelveOutOfRange() {
        Run x = Run.withNodes(12);
        for (int n : Run.outside(0, 11)) {
            x.addEdge(n, 0, 0).isBad();
            x.addEdge(0, n, 0).isBad();
        }
        x.degree(0, 0).is(0);
        x.degree(0, 1).is(0);
    }

    private static void addEdgeAtARemovedNode() {
        Run x = Run.withNodes(2);
        x.removeNode(1).is(0);
        x.addEdge(0, 1, 0).isBad();
        x.addEdge(1, 0, 0).isBad();
        x.addEdge(1, 1, 0).isBad();
        x.addNode(0, 0).is(1);
        x.degree(1, 0).is(0);
        x.degree(1, 1).is(0);
        x.addEdge(0, 1, 0).is(0);
    }

    private static void addEdgeWhatOutOfRange() {
        Run x = Run.withNodes(1);
        for (int what : Run.outside(0, 62)) {
            x.addEdge(0, 0, what).isBad();
        }
        x.degree(0, 0).is(0);
        x.addEdge(0, 0, 62).is(0);
        x.addEdge(0, 0, 0).is(1);
    }

    private static void addEdgeFull() {
        Run x = fullOfEdges();
        x.addEdge(0, 0, 0).isFull();
        x.addEdge(0, 2, 62).isFull();
        x.addEdge(2, 2, 62).isFull();
        x.degree(0, 0).is(20);
        x.degree(2, 1).is(0);
        x.removeEdge(13).isTrue();
        x.addEdge(0, 2, 62).is(13);
        x.addEdge(0, 0, 0).isFull();
    }

    private static void addEdgeNodeBeforeFull() {
        Run x = fullOfEdges();
        x.addEdge(1, 0, 0).isBad();
        x.addEdge(0, 1, 0).isBad();
        x.addEdge(12, 0, 0).isBad();
        x.addEdge(0, -1, 0).isBad();
        x.degree(0, 0).is(20);
    }

    private static void addEdgeWhatBeforeFull() {
        Run x = fullOfEdges();
        x.addEdge(0, 0, 63).isBad();
        x.addEdge(0, 0, -1).isBad();
        x.degree(0, 0).is(20);
    }

    private static void removeEdgeTakesIt() {
        Run x = Run.withNodes(2);
        for (int e = 0; e < 20; e++) {
            x.edge(0, 1, e % 3, e).is(e);
        }
        x.anySpots(2);
        x.edgeLink(0, 0, 1, 7);
        for (int e = 0; e < 20; e++) {
            x.removeEdge(e).isTrue();
            x.degree(0, 0).is(19 - e);
            x.degree(1, 1).is(19 - e);
            x.count().is(19 - e);
            x.weighs(e == 19 ? -1 : e + 1, e == 19 ? -1 : 19);
        }
        x.reach(0, 7, 3).is(0);
        x.nodes().is(3);
    }

    private static void removeEdgeOnce() {
        Run x = Run.withNodes(1);
        x.addEdge(0, 0, 0).is(0);
        x.addEdge(0, 0, 0).is(1);
        x.removeEdge(0).isTrue();
        x.removeEdge(0).isFalse();
        x.degree(0, 0).is(1);
        x.removeEdge(1).isTrue();
        x.removeEdge(1).isFalse();
        x.degree(0, 0).is(0);
    }

    private static void removeEdgeWithoutEdge() {
        Run x = Run.withNodes(1);
        x.addEdge(0, 0, 0).is(0);
        for (int e : Run.outside(0, 0)) {
            x.removeEdge(e).isFalse();
        }
        for (int e = 1; e < 20; e++) {
            x.removeEdge(e).isFalse();
        }
        x.degree(0, 0).is(1);
    }

    private static void removeEdgeOfAllTwentyOutOfRange() {
        Run x = fullOfEdges();
        for (int e : Run.outside(0, 19)) {
            x.removeEdge(e).isFalse();
        }
        x.degree(0, 0).is(20);
        x.addEdge(0, 0, 0).isFull();
    }

    private static void removeEdgeAfterItsNode() {
        Run x = Run.withNodes(2);
        x.addEdge(0, 1, 0).is(0);
        x.addEdge(0, 0, 0).is(1);
        x.removeNode(1).is(1);
        x.removeEdge(0).isFalse();
        x.removeEdge(1).isTrue();
    }

    private static void anEdgeNumberGivenAnewIsNew() {
        for (int old = 0; old < 3; old++) {
            Run x = Run.withNodes(3);
            x.edge(0, 1, old, 20).is(0);
            x.removeEdge(0).isTrue();
            int type = (old + 1) % 3;
            x.edge(1, 2, type, 3).is(0);
            x.degree(0, 0).is(0);
            x.degree(1, 1).is(0);
            x.reach(0, 7, 3).is(0);
            x.reach(1, 1 << old, 3).is(0);
            x.reach(1, 1 << type, 3).is(4);
            x.anySpots(2);
            x.edgeLink(0, 0, 1, 7);
            x.matchesAre("1 2 - - | 0 - - -");
            x.weighs(3, 3);
        }
    }

    private static void degreeFromAndTo() {
        Run x = Run.withNodes(4);
        x.addEdge(0, 1, 0);
        x.addEdge(0, 1, 1);
        x.addEdge(0, 2, 2);
        x.addEdge(1, 1, 0);
        int[] from = {3, 1, 0, 0};
        int[] to = {0, 3, 1, 0};
        for (int n = 0; n < 4; n++) {
            x.degree(n, 0).is(from[n]);
            x.degree(n, 1).is(to[n]);
        }
    }

    private static void degreeOfTwentyAndNone() {
        Run x = fullOfEdges();
        x.degree(0, 0).is(20);
        x.degree(0, 1).is(20);
        x.degree(2, 0).is(0);
        x.degree(2, 1).is(0);
    }

    private static void degreeWithoutNode() {
        Run x = fullOfEdges();
        for (int n : Run.outside(0, 11)) {
            x.degree(n, 0).isBad();
            x.degree(n, 1).isBad();
        }
        x.degree(1, 0).isBad();
        x.degree(1, 1).isBad();
        x.degree(3, 0).isBad();
        x.degree(11, 1).isBad();
    }

    private static void degreeWhatOutOfRange() {
        Run x = fullOfEdges();
        for (int what : Run.outside(0, 1)) {
            x.degree(0, what).isBad();
        }
        x.degree(1, 2).isBad();
    }

    private static Run rowOfFive() {
        Run x = Run.withNodes(5);
        for (int n = 0; n < 4; n++) {
            x.edge(n, n + 1, n % 3, 0).is(n);
        }
        return x;
    }

    private static void reachOneToK() {
        Run x = rowOfFive();
        x.reach(0, 7, 1).is(2);
        x.reach(0, 7, 2).is(6);
        x.reach(0, 7, 3).is(14);
        x.reach(1, 7, 3).is(28);
        x.reach(2, 7, 3).is(24);
        x.reach(3, 7, 3).is(16);
    }

    private static void reachWithTypes() {
        Run x = rowOfFive();
        int[] due = {0, 2, 0, 6, 0, 2, 0, 14};
        for (int types = 0; types <= 7; types++) {
            x.reach(0, types, 3).is(due[types]);
        }
    }

    private static void reachItself() {
        Run x = Run.withNodes(8);
        for (int round = 1; round <= 4; round++) {
            // A round of one, two, three and four edges, each tried alone.
            for (int n = 0; n < round; n++) {
                x.addEdge(n, (n + 1) % round, 0).is(n);
            }
            for (int k = 1; k <= 3; k++) {
                int ahead = 0;
                for (int step = 1; step <= k; step++) {
                    ahead |= 1 << step % round;
                }
                x.reach(0, 7, k).is(ahead);
            }
            for (int n = 0; n < round; n++) {
                x.removeEdge(n).isTrue();
            }
        }
    }

    private static void reachOverEachBranch() {
        Run x = Run.withNodes(9);
        x.addEdge(0, 1, 0);
        x.addEdge(0, 4, 1);
        x.addEdge(0, 7, 2);
        x.addEdge(1, 2, 1);
        x.addEdge(4, 5, 2);
        x.addEdge(7, 8, 0);
        x.addEdge(2, 3, 2);
        x.addEdge(5, 6, 0);
        x.reach(0, 7, 1).is(2 + 16 + 128);
        x.reach(0, 7, 2).is(2 + 4 + 16 + 32 + 128 + 256);
        x.reach(0, 7, 3).is(510);
        x.reach(0, 3, 3).is(2 + 4 + 16);
        x.reach(0, 6, 3).is(16 + 32 + 128);
    }

    private static void reachNothing() {
        Run x = rowOfFive();
        x.reach(4, 7, 3).is(0);
        x.reach(0, 0, 3).is(0);
        x.addNode(0, 0).is(5);
        x.reach(5, 7, 3).is(0);
    }

    private static void reachAllTwelve() {
        Run x = Run.withNodes(12);
        for (int n = 0; n < 12; n++) {
            x.addEdge(11, n, 1).is(n);
        }
        x.reach(11, 2, 1).is(4095);
        x.reach(11, 5, 1).is(0);
        x.reach(0, 7, 3).is(0);
    }

    private static void reachWithoutNode() {
        Run x = rowOfFive();
        for (int n : Run.outside(0, 4)) {
            x.reach(n, 7, 3).isBad();
        }
        for (int n = 5; n < 12; n++) {
            x.reach(n, 7, 3).isBad();
        }
        x.removeNode(0).is(1);
        x.reach(0, 7, 3).isBad();
        x.reach(0, 0, 1).isBad();
    }

    private static void reachTypesOutOfRange() {
        Run x = rowOfFive();
        for (int types : Run.outside(0, 7)) {
            x.reach(0, types, 3).isBad();
        }
    }

    private static void reachKOutOfRange() {
        Run x = rowOfFive();
        for (int k : Run.outside(1, 3)) {
            x.reach(0, 7, k).isBad();
        }
        x.reach(4, 0, 0).isBad();
    }

    private static void bitsOfNodes() {
        Run x = new Run();
        x.nodes().is(0);
        for (int n = 0; n < 12; n++) {
            x.addNode(n % 4, -n).is(n);
            x.nodes().is((1 << (n + 1)) - 1);
        }
        for (int n = 0; n < 12; n++) {
            x.removeNode(n).is(0);
            x.nodes().is(4095 & -(1 << (n + 1)));
        }
    }

    private static void promises1To4() {
        Sentences.test("1 No nodes", StoreTest::newHasNoNodes);
        Sentences.test("1 No edges", StoreTest::newHasNoEdges);
        Sentences.test("1 both patterns have no spots", StoreTest::newHasNoSpots);
        Sentences.test("1 no links", StoreTest::newHasNoLinks);
        Sentences.test("1 mode 0", StoreTest::newHasMode0);
        Sentences.test("1 a new object beside a full one", StoreTest::newIsItsOwn);
        Sentences.test("2 the least number that none has", StoreTest::leastNodeNumber);
        Sentences.test("2 a node under a number that was free again", StoreTest::aNumberGivenAnewIsNew);
        Sentences.test("2 BAD when label is not 0 .. 3", StoreTest::addNodeLabelOutOfRange);
        Sentences.test("2 BAD when value is not -99 .. 99", StoreTest::addNodeValueOutOfRange);
        Sentences.test("2 BAD when neither is", StoreTest::addNodeBothOutOfRange);
        Sentences.test("2 FULL when there are twelve", StoreTest::addNodeFull);
        Sentences.test("2 BAD is tested before FULL", StoreTest::addNodeBadBeforeFull);
        Sentences.test("3 another label and value", StoreTest::setNodeSetsBoth);
        Sentences.test("3 of node n alone", StoreTest::setNodeLeavesTheRest);
        Sentences.test("3 false when there is no node n", StoreTest::setNodeWithoutNode);
        Sentences.test("3 false when n is no number of a node", StoreTest::setNodeOfAllTwelveOutOfRange);
        Sentences.test("3 false when node n is gone", StoreTest::setNodeOfARemovedNode);
        Sentences.test("3 false when label is out of range", StoreTest::setNodeLabelOutOfRange);
        Sentences.test("3 false when value is out of range", StoreTest::setNodeValueOutOfRange);
        Sentences.test("4 with all edges that go from or to it", StoreTest::removeNodeTakesEdges);
        Sentences.test("4 an edge from and to it is one", StoreTest::removeNodeCountsALoopOnce);
        Sentences.test("4 no edges", StoreTest::removeNodeWithoutEdges);
        Sentences.test("4 twenty edges", StoreTest::removeNodeWithTwentyEdges);
        Sentences.test("4 nothing is left at the other end", StoreTest::removeNodeLeavesItsPartners);
        Sentences.test("4 BAD when there is none", StoreTest::removeNodeWithoutNode);
        Sentences.test("4 BAD when n is no number of a node", StoreTest::removeNodeOfAllTwelveOutOfRange);
    }

    private static void promises5And6() {
        Sentences.test("5 the least number that none has", StoreTest::leastEdgeNumber);
        Sentences.test("5 type + 3 * weight (0 .. 62)", StoreTest::whatIsTypeAndWeight);
        Sentences.test("5 BAD when from is not there", StoreTest::addEdgeFromNoNode);
        Sentences.test("5 BAD when to is not there", StoreTest::addEdgeToNoNode);
        Sentences.test("5 BAD when it is no number of a node", StoreTest::addEdgeOfAllTwelveOutOfRange);
        Sentences.test("5 BAD when a node is gone", StoreTest::addEdgeAtARemovedNode);
        Sentences.test("5 BAD when what is out of range", StoreTest::addEdgeWhatOutOfRange);
        Sentences.test("5 FULL when there are twenty", StoreTest::addEdgeFull);
        Sentences.test("5 BAD of a node is tested before FULL", StoreTest::addEdgeNodeBeforeFull);
        Sentences.test("5 BAD of what is tested before FULL", StoreTest::addEdgeWhatBeforeFull);
        Sentences.test("6 takes edge e away", StoreTest::removeEdgeTakesIt);
        Sentences.test("6 false when it is gone", StoreTest::removeEdgeOnce);
        Sentences.test("6 false when there is none", StoreTest::removeEdgeWithoutEdge);
        Sentences.test("6 false when e is no number of an edge", StoreTest::removeEdgeOfAllTwentyOutOfRange);
        Sentences.test("6 false when it went with its node", StoreTest::removeEdgeAfterItsNode);
        Sentences.test("6 an edge under a number that was free again", StoreTest::anEdgeNumberGivenAnewIsNew);
    }

    private static void promises7To9() {
        Sentences.test("7 from (what 0) or to (what 1)", StoreTest::degreeFromAndTo);
        Sentences.test("7 twenty, and none", StoreTest::degreeOfTwentyAndNone);
        Sentences.test("7 BAD when there is no node", StoreTest::degreeWithoutNode);
        Sentences.test("7 BAD when what is not 0 or 1", StoreTest::degreeWhatOutOfRange);
        Sentences.test("8 ways of one to k edges", StoreTest::reachOneToK);
        Sentences.test("8 with types of a set (0 .. 7)", StoreTest::reachWithTypes);
        Sentences.test("8 itself by a way, not without one", StoreTest::reachItself);
        Sentences.test("8 ways over each branch", StoreTest::reachOverEachBranch);
        Sentences.test("8 no way", StoreTest::reachNothing);
        Sentences.test("8 bit m for node m, all twelve", StoreTest::reachAllTwelve);
        Sentences.test("8 BAD when there is no node n", StoreTest::reachWithoutNode);
        Sentences.test("8 BAD when types is out of range", StoreTest::reachTypesOutOfRange);
        Sentences.test("8 BAD when k is out of range", StoreTest::reachKOutOfRange);
        Sentences.test("9 bit n for node n", StoreTest::bitsOfNodes);
    }

    public static void main(String[] args) {
        promises1To4();
        promises5And6();
        promises7To9();
        Sentences.end();
    }
}
