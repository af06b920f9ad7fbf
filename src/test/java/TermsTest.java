/** The sentences of "What it is" and "Terms" that name a boundary case, a test for each. */
public final class TermsTest {
    private static void the512thCallOfNodes() {
        Run x = new Run();
        for (int pair = 0; pair < 255; pair++) {
            x.addNode(pair % 4, pair % 100).is(0);
            x.removeNode(0).is(0);
        }
        x.addNode(3, 99).is(0);
        x.nodes().is(1);
        fullyUsed(x);
    }

    private static void the512thCallOfEdges() {
        Run x = Run.withNodes(2);
        for (int pair = 0; pair < 254; pair++) {
            x.addEdge(pair % 2, 1, pair % 63).is(0);
            x.removeEdge(0).isTrue();
        }
        x.addEdge(0, 1, 62).is(0);
        x.reach(0, 4, 1).is(2);
        fullyUsed(x);
    }

    private static void the512thCallOfPatterns() {
        Run x = Run.withNodes(2);
        x.addEdge(0, 1, 0).is(0);
        for (int round = 0; round < 101; round++) {
            x.begin(round % 4).isTrue();
            x.anySpots(2);
            x.edgeLink(round % 4, 0, 1, 7);
            x.keep().is(1);
        }
        x.part(0, 4 + 100 % 4).is(0);
        x.begin(0).isTrue();
        x.anySpots(1);
        x.kept().is(1);
        fullyUsed(x);
    }

    private static void the512thCallAfterRefusals() {
        Run x = new Run();
        for (int call = 0; call < 511; call++) {
            x.addNode(4, 0).isBad();
        }
        x.addNode(3, -99).is(0);
        fullyUsed(x);
    }

    private static void the512thCallThatIsTooMany() {
        Run x = new Run();
        for (int call = 0; call < 512; call++) {
            x.addNode(0, 0).is(call < 12 ? call : -2);
        }
        x = Run.withNodes(1);
        for (int call = 0; call < 511; call++) {
            x.addEdge(0, 0, 0).is(call < 20 ? call : -2);
        }
        fullyUsed(x);
    }

    private interface Call {
        Run.Answer on(Run x);
    }

    /** Makes the same call over and over, on an object that is full, until none is left. */
    private static void upToThe512th(int due, Call call) {
        Run x = Run.withNodes(12);
        for (int e = 0; e < 20; e++) {
            x.edge(0, 11, 2, 3).is(e);
        }
        x.anySpots(2);
        x.edgeLink(0, 0, 1, 4);
        x.keep().is(20);
        while (x.callsMade() < 512) {
            call.on(x).is(due);
        }
    }

    private static void the512thCallOfEachMethod() {
        upToThe512th(-2, x -> x.addNode(0, 0));
        upToThe512th(1, x -> x.setNode(0, 0, 0));
        upToThe512th(-1, x -> x.removeNode(12));
        upToThe512th(-2, x -> x.addEdge(0, 0, 0));
        upToThe512th(0, x -> x.removeEdge(20));
        upToThe512th(20, x -> x.degree(11, 1));
        upToThe512th(2048, x -> x.reach(0, 4, 3));
        upToThe512th(4095, x -> x.nodes());
        upToThe512th(1, x -> x.begin(3));
        upToThe512th(1, x -> x.spot(3, 15, 0, 0));
        upToThe512th(1, x -> x.link(3, 4, 7, 1));
        upToThe512th(20, x -> x.count());
        upToThe512th(19, x -> x.part(19, 4));
        upToThe512th(3, x -> x.weigh(0));
        upToThe512th(20, x -> x.keep());
        upToThe512th(20, x -> x.kept());
    }

    private static void fullyUsed(Run x) {
        if (x.callsMade() != 512) {
            Sentences.wrong("the test made " + x.callsMade() + " calls, not 512");
        }
    }

    private static void twelveNodes() {
        Run x = Run.withNodes(12);
        x.addNode(0, 0).isFull();
        x.nodes().is(4095);
    }

    private static void nodeNumbers() {
        for (int n = 0; n < 12; n++) {
            Run x = Run.withNodes(12);
            x.setNode(n, 3, 99).isTrue();
            x.edge(n, n, 2, 20).is(0);
            x.degree(n, 0).is(1);
            x.degree(n, 1).is(1);
            x.reach(n, 4, 1).is(1 << n);
            x.spot(0, 8, 99, 99).isTrue();
            x.edgeLink(0, 0, 0, 4);
            x.matchesAre(n + " - - - | 0 - - -");
            x.wayLink(0, 0, 0, 4);
            x.matchesAre(n + " - - - | - - - -");
            x.removeNode(n).is(1);
            x.nodes().is(4095 - (1 << n));
        }
    }

    private static void labels() {
        for (int label = 0; label < 4; label++) {
            Run x = new Run();
            x.addNode(label, 0).is(0);
            for (int other = 0; other < 4; other++) {
                x.spot(0, 1 << other, 0, 0).isTrue();
                x.count().is(other == label ? 1 : 0);
            }
        }
    }

    private static void values() {
        for (int value = -99; value <= 99; value++) {
            Run x = new Run();
            x.addNode(0, value).is(0);
            x.spot(0, 1, value, value).isTrue();
            x.count().is(1);
            x.addNode(0, 0).is(1);
            x.spot(0, 1, value, value).isTrue();
            x.count().is(value == 0 ? 2 : 1);
            x.setNode(1, 0, value).isTrue();
            x.count().is(2);
        }
    }

    private static void twentyEdges() {
        Run x = Run.withNodes(12);
        for (int e = 0; e < 20; e++) {
            x.addEdge(e % 12, (e * 5 + 1) % 12, e).is(e);
        }
        x.addEdge(0, 1, 0).isFull();
        x.anySpots(2);
        x.edgeLink(0, 0, 1, 7);
        x.count().is(20);
    }

    private static void edgeNumbers() {
        for (int e = 0; e < 20; e++) {
            Run x = Run.withNodes(3);
            for (int before = 0; before < e; before++) {
                x.edge(0, 1, 0, 1).is(before);
            }
            x.edge(1, 2, 2, 13).is(e);
            x.anySpots(2);
            x.edgeLink(3, 0, 1, 4);
            x.matchesAre("1 2 - - | - - - " + e);
            x.weighs(13, 13);
            x.removeEdge(e).isTrue();
            x.degree(1, 0).is(0);
            x.degree(0, 0).is(e);
        }
    }

    private static void edgesBetweenAnyTwoNodes() {
        for (int from = 0; from < 12; from++) {
            for (int to = 0; to < 12; to++) {
                Run x = Run.withNodes(12);
                x.addEdge(from, to, 1).is(0);
                for (int n = 0; n < 12; n++) {
                    x.degree(n, 0).is(n == from ? 1 : 0);
                    x.degree(n, 1).is(n == to ? 1 : 0);
                    x.reach(n, 7, 1).is(n == from ? 1 << to : 0);
                }
                x.anySpots(2);
                x.edgeLink(0, 0, 1, 2);
                x.matchesAre(from + " " + to + " - - | 0 - - -");
                x.edgeLink(0, 1, 0, 2);
                x.matchesAre(to + " " + from + " - - | 0 - - -");
            }
        }
    }

    private static void anEdgeToTheSameNode() {
        Run x = Run.withNodes(2);
        x.edge(1, 1, 0, 6).is(0);
        x.degree(1, 0).is(1);
        x.degree(1, 1).is(1);
        x.reach(1, 7, 1).is(2);
        x.anySpots(2);
        x.edgeLink(0, 0, 1, 7);
        x.matchesAre("1 1 - - | 0 - - -");
        x.weighs(6, 6);
    }

    private static void types() {
        for (int type = 0; type < 3; type++) {
            Run x = Run.withNodes(2);
            x.edge(0, 1, type, 4).is(0);
            x.anySpots(2);
            for (int other = 0; other < 3; other++) {
                x.reach(0, 1 << other, 1).is(other == type ? 2 : 0);
                x.edgeLink(0, 0, 1, 1 << other);
                x.count().is(other == type ? 1 : 0);
                x.wayLink(0, 0, 1, 1 << other);
                x.count().is(other == type ? 1 : 0);
            }
        }
    }

    private static void weights() {
        for (int weight = 0; weight <= 20; weight++) {
            for (int type = 0; type < 3; type++) {
                Run x = Run.withNodes(2);
                x.edge(0, 1, type, weight).is(0);
                x.anySpots(2);
                x.edgeLink(0, 0, 1, 1 << type);
                x.weighs(weight, weight);
            }
        }
    }

    private static void parallelEdges() {
        Run x = Run.withNodes(2);
        for (int e = 0; e < 20; e++) {
            x.addEdge(0, 1, 5).is(e);
        }
        x.degree(0, 0).is(20);
        x.degree(1, 1).is(20);
        x.reach(0, 7, 3).is(2);
        x.anySpots(2);
        x.edgeLink(0, 0, 1, 7);
        x.count().is(20);
        for (int k = 0; k < 20; k++) {
            x.part(k, 4).is(k);
        }
        x.removeEdge(0).isTrue();
        x.count().is(19);
        x.part(0, 4).is(1);
        x.removeNode(1).is(19);
    }

    private static void parallelLoops() {
        Run x = Run.withNodes(1);
        for (int e = 0; e < 20; e++) {
            x.addEdge(0, 0, 5).is(e);
        }
        x.degree(0, 0).is(20);
        x.degree(0, 1).is(20);
        x.removeNode(0).is(20);
    }

    private static void setsOfLabels() {
        for (int labels = 0; labels <= 15; labels++) {
            Run x = new Run();
            for (int label = 0; label < 4; label++) {
                x.addNode(label, 0).is(label);
            }
            x.spot(0, labels, 0, 0).isTrue();
            int k = 0;
            for (int label = 0; label < 4; label++) {
                if ((labels >> label & 1) == 1) {
                    x.part(k, 0).is(label);
                    k++;
                }
            }
            x.count().is(k);
            x.part(k, 0).isBad();
        }
    }

    private static void setsOfTypes() {
        for (int types = 0; types <= 7; types++) {
            Run x = Run.withNodes(4);
            for (int type = 0; type < 3; type++) {
                x.edge(0, 1 + type, type, 0).is(type);
            }
            int reached = types << 1;
            int number = Integer.bitCount(types);
            x.reach(0, types, 1).is(reached);
            x.reach(0, types, 3).is(reached);
            x.anySpots(2);
            x.edgeLink(0, 0, 1, types);
            x.count().is(number);
            x.wayLink(0, 0, 1, types);
            x.count().is(number);
        }
    }

    private static void aWayBeginsAtItsNode() {
        Run x = Run.withNodes(4);
        x.addEdge(0, 1, 0);
        x.addEdge(2, 3, 0);
        x.reach(0, 7, 3).is(2);
        x.reach(1, 7, 3).is(0);
        x.reach(3, 7, 3).is(0);
        x.anySpots(2);
        x.wayLink(0, 0, 1, 7);
        x.matchesAre("0 1 - - | - - - -", "2 3 - - | - - - -");
    }

    private static void aWayGoesOnWhereItCame() {
        Run x = Run.withNodes(4);
        x.addEdge(0, 1, 0);
        x.addEdge(2, 1, 0);
        x.addEdge(2, 3, 0);
        x.reach(0, 7, 3).is(2);
        x.anySpots(2);
        x.wayLink(0, 0, 1, 7);
        x.matchesAre("0 1 - - | - - - -", "2 1 - - | - - - -", "2 3 - - | - - - -");
    }

    private static void aWayTakesAnyBranch() {
        Run x = Run.withNodes(5);
        x.addEdge(0, 1, 0);
        x.addEdge(0, 2, 0);
        x.addEdge(1, 3, 0);
        x.addEdge(2, 4, 0);
        x.anySpots(2);
        x.wayLink(0, 0, 1, 7);
        x.matchesAre("0 1 - - | - - - -", "0 2 - - | - - - -", "0 3 - - | - - - -", "0 4 - - | - - - -",
            "1 3 - - | - - - -", "2 4 - - | - - - -");
    }

    private static void aWayMayComeBack() {
        Run x = Run.withNodes(5);
        x.addEdge(0, 0, 0);
        x.addEdge(1, 2, 0);
        x.addEdge(2, 1, 0);
        x.reach(0, 7, 1).is(1);
        x.reach(0, 7, 2).is(1);
        x.reach(0, 7, 3).is(1);
        x.reach(1, 7, 1).is(4);
        x.reach(1, 7, 2).is(6);
        x.reach(1, 7, 3).is(6);
        x.anySpots(1);
        x.wayLink(0, 0, 0, 7);
        x.matchesAre("0 - - - | - - - -", "1 - - - | - - - -", "2 - - - | - - - -");
    }

    private static void everyChoiceOfSpots() {
        for (int spots = 0; spots < 16; spots++) {
            Run x = Run.withNodes(2);
            for (int i = 0; i < 4; i++) {
                if ((spots >> i & 1) == 1) {
                    x.anySpot(i);
                }
            }
            x.count().is(1 << Integer.bitCount(spots));
            for (int i = 0; i < 4; i++) {
                boolean has = (spots >> i & 1) == 1;
                x.part(0, i).is(has ? 0 : -1);
                x.part((1 << Integer.bitCount(spots)) - 1, i).is(has ? 1 : -1);
            }
        }
    }

    private static void everyChoiceOfLinks() {
        for (int links = 0; links < 16; links++) {
            Run x = Run.withNodes(2);
            x.edge(1, 0, 0, 1);
            x.edge(1, 0, 0, 2);
            x.anySpots(2);
            for (int j = 0; j < 4; j++) {
                if ((links >> j & 1) == 1) {
                    x.edgeLink(j, 0, 1, 7);
                }
            }
            int number = Integer.bitCount(links);
            // Without a link nothing binds the two spots.
            int matches = number == 0 ? 4 : 1 << number;
            x.count().is(matches);
            x.weighs(number, 2 * number);
            for (int j = 0; j < 4; j++) {
                boolean has = (links >> j & 1) == 1;
                x.part(0, 4 + j).is(has ? 0 : -1);
                x.part(matches - 1, 4 + j).is(has ? 1 : -1);
            }
        }
    }

    private static void aLinkToTheSameSpot() {
        for (int i = 0; i < 4; i++) {
            Run x = Run.withNodes(3);
            x.addEdge(0, 1, 0).is(0);
            x.addEdge(1, 1, 0).is(1);
            x.addEdge(1, 2, 0).is(2);
            x.addEdge(2, 0, 0).is(3);
            x.anySpot(i);
            x.edgeLink(0, i, i, 7);
            x.count().is(1);
            x.part(0, i).is(1);
            x.part(0, 4).is(1);
            x.removeEdge(1).isTrue();
            x.count().is(0);
            x.wayLink(0, i, i, 7);
            x.count().is(3);
            x.removeEdge(3).isTrue();
            x.count().is(0);
        }
    }

    private static void valuesFromLeastToGreatest() {
        Run x = new Run();
        x.addNode(0, -7).is(0);
        x.addNode(0, 0).is(1);
        x.addNode(0, 8).is(2);
        int[][] rangeAndNumber = {{-7, 8, 3}, {-7, -7, 1}, {8, 8, 1}, {-6, 7, 1}, {-6, 8, 2}, {-7, 7, 2}, {-8, 9, 3},
            {-8, -8, 0}, {9, 9, 0}, {1, 7, 0}, {8, -7, 0}, {1, 0, 0}};
        for (int[] r : rangeAndNumber) {
            x.spot(0, 15, r[0], r[1]).isTrue();
            x.count().is(r[2]);
        }
    }

    private static void labelAndValueBoth() {
        Run x = new Run();
        x.addNode(1, 5).is(0);
        x.addNode(1, 6).is(1);
        x.addNode(2, 5).is(2);
        x.spot(0, 2, 5, 5).isTrue();
        x.matchesAre("0 - - - | - - - -");
        x.spot(0, 4, 6, 6).isTrue();
        x.matchesAre();
    }

    private static void everySpotHasANode() {
        Run x = new Run();
        x.addNode(0, 0).is(0);
        x.anySpots(3);
        x.count().is(1);
        for (int i = 0; i < 4; i++) {
            x.begin(0).isTrue();
            x.anySpots(4);
            x.spot(i, 8, Run.MIN, Run.MAX).isTrue();
            x.matchesAre();
        }
    }

    private static void anEdgeFromFirstToSecond() {
        Run x = Run.withNodes(2);
        x.addEdge(1, 0, 0).is(0);
        x.anySpots(2);
        x.edgeLink(0, 0, 1, 7);
        x.matchesAre("1 0 - - | 0 - - -");
        x.edgeLink(0, 1, 0, 7);
        x.matchesAre("0 1 - - | 0 - - -");
    }

    private static void anEdgeOfTheSet() {
        Run x = Run.withNodes(2);
        x.edge(0, 1, 0, 0).is(0);
        x.edge(0, 1, 1, 0).is(1);
        x.edge(0, 1, 2, 0).is(2);
        x.edge(0, 1, 1, 0).is(3);
        x.anySpots(2);
        x.edgeLink(0, 0, 1, 2);
        x.matchesAre("0 1 - - | 1 - - -", "0 1 - - | 3 - - -");
        x.edgeLink(0, 0, 1, 5);
        x.matchesAre("0 1 - - | 0 - - -", "0 1 - - | 2 - - -");
        x.edgeLink(0, 0, 1, 0);
        x.matchesAre();
    }

    private static void anEdgeIsNotALongerWay() {
        Run x = Run.withNodes(3);
        x.addEdge(0, 1, 0).is(0);
        x.addEdge(1, 2, 0).is(1);
        x.anySpots(2);
        x.edgeLink(0, 0, 1, 7);
        x.matchesAre("0 1 - - | 0 - - -", "1 2 - - | 1 - - -");
    }

    /** Nodes 0 .. 5 in a row, each told by its value, and a way from spot 0 to spot 1. */
    private static Run row() {
        Run x = new Run();
        for (int n = 0; n < 6; n++) {
            x.addNode(n % 4, n).is(n);
        }
        for (int n = 0; n < 5; n++) {
            x.edge(n, n + 1, n % 3, 20).is(n);
        }
        x.anySpots(2);
        x.wayLink(0, 0, 1, 7);
        return x;
    }

    private static void waysOf(int edges, boolean due) {
        for (int first = 0; first + edges < 6; first++) {
            Run x = row();
            x.spot(0, 15, first, first).isTrue();
            x.spot(1, 15, first + edges, first + edges).isTrue();
            x.count().is(due ? 1 : 0);
        }
    }

    private static void aWayWithinTheSet() {
        // The types along the row are 0, 1, 2: without one of them the way is broken there.
        for (int types = 0; types <= 7; types++) {
            Run x = row();
            x.spot(0, 15, 0, 0).isTrue();
            x.spot(1, 15, 3, 3).isTrue();
            x.wayLink(0, 0, 1, types);
            x.count().is(types == 7 ? 1 : 0);
        }
    }

    private static void aWayOverAnyNodes() {
        for (int mode = 0; mode < 4; mode++) {
            Run x = new Run();
            x.addNode(0, 0).is(0);
            x.addNode(3, 99).is(1);
            x.addNode(0, 0).is(2);
            x.addEdge(0, 1, 0);
            x.addEdge(1, 2, 0);
            x.begin(mode).isTrue();
            x.spot(0, 1, 0, 0).isTrue();
            x.spot(1, 1, 0, 0).isTrue();
            x.wayLink(0, 0, 1, 7);
            x.matchesAre("0 2 - - | - - - -");
            // The node between may be that of a spot, too.
            x.spot(2, 8, 99, 99).isTrue();
            x.matchesAre("0 2 1 - | - - - -");
        }
    }

    private static void waysDoNotMakeMatches() {
        Run x = Run.withNodes(4);
        x.addEdge(0, 3, 0);
        x.addEdge(0, 3, 0);
        x.addEdge(0, 1, 0);
        x.addEdge(1, 3, 0);
        x.addEdge(1, 2, 0);
        x.addEdge(2, 3, 0);
        x.setNode(0, 1, 0).isTrue();
        x.setNode(3, 2, 0).isTrue();
        x.spot(0, 2, 0, 0).isTrue();
        x.spot(1, 4, 0, 0).isTrue();
        x.wayLink(0, 0, 1, 7);
        x.matchesAre("0 3 - - | - - - -");
        x.edgeLink(0, 0, 1, 7);
        x.matchesAre("0 3 - - | 0 - - -", "0 3 - - | 1 - - -");
    }

    private static void differentNodes(int mode, boolean due) {
        for (int i = 0; i < 4; i++) {
            for (int h = 0; h < i; h++) {
                Run x = Run.withNodes(1);
                x.begin(mode).isTrue();
                x.anySpot(h);
                x.anySpot(i);
                x.count().is(due ? 0 : 1);
                x.addNode(0, 0).is(1);
                x.count().is(due ? 2 : 4);
                x.part(0, h).is(0);
                x.part(0, i).is(due ? 1 : 0);
            }
        }
        Run x = Run.withNodes(4);
        x.begin(mode).isTrue();
        x.anySpots(4);
        x.count().is(due ? 24 : 256);
        x.removeNode(3).is(0);
        x.count().is(due ? 0 : 81);
    }

    private static void differentEdges(int mode, boolean due) {
        for (int j = 0; j < 4; j++) {
            for (int h = 0; h < j; h++) {
                Run x = Run.withNodes(2);
                x.edge(0, 1, 0, 3).is(0);
                x.begin(mode).isTrue();
                x.anySpots(2);
                x.edgeLink(h, 0, 1, 7);
                x.edgeLink(j, 0, 1, 7);
                x.count().is(due ? 0 : 1);
                x.edge(0, 1, 0, 5).is(1);
                x.count().is(due ? 2 : 4);
                x.part(0, 4 + h).is(0);
                x.part(0, 4 + j).is(due ? 1 : 0);
                x.weighs(due ? 8 : 6, due ? 8 : 10);
            }
        }
        Run x = Run.withNodes(2);
        for (int e = 0; e < 4; e++) {
            x.addEdge(0, 1, 0).is(e);
        }
        x.begin(mode).isTrue();
        x.anySpots(2);
        for (int j = 0; j < 4; j++) {
            x.edgeLink(j, 0, 1, 7);
        }
        x.count().is(due ? 24 : 256);
        x.removeEdge(0).isTrue();
        x.count().is(due ? 0 : 81);
    }

    /** Links between different spots have the same edge only where these spots have the same nodes. */
    private static void edgesOfDifferentSpots() {
        int[] due = {1, 0, 0, 0};
        for (int mode = 0; mode < 4; mode++) {
            Run x = Run.withNodes(2);
            x.addEdge(0, 1, 0).is(0);
            x.begin(mode).isTrue();
            x.anySpots(3);
            x.edgeLink(0, 0, 1, 7);
            x.edgeLink(1, 0, 2, 7);
            x.count().is(due[mode]);
        }
    }

    private static void waysShareEdges() {
        for (int mode = 0; mode < 4; mode++) {
            Run x = Run.withNodes(2);
            x.edge(0, 1, 0, 9).is(0);
            x.begin(mode).isTrue();
            x.anySpots(2);
            x.wayLink(0, 0, 1, 7);
            x.edgeLink(1, 0, 1, 7);
            x.wayLink(2, 0, 1, 7);
            x.matchesAre("0 1 - - | - 0 - -");
            x.weighs(9, 9);
        }
    }

    private static void anotherNodeOrEdge() {
        Run x = Run.withNodes(3);
        x.addEdge(0, 1, 0);
        x.addEdge(0, 1, 0);
        x.addEdge(0, 2, 0);
        x.anySpots(2);
        x.edgeLink(0, 0, 1, 7);
        x.matchesAre("0 1 - - | 0 - - -", "0 1 - - | 1 - - -", "0 2 - - | 2 - - -");
        x.anySpot(3);
        x.count().is(9);
    }

    private static void weightIsTheSum() {
        Run x = Run.withNodes(5);
        int[] weights = {1, 2, 4, 8};
        for (int e = 0; e < 4; e++) {
            x.edge(e, e + 1, 0, weights[e]).is(e);
        }
        x.anySpots(4);
        x.edgeLink(0, 0, 1, 7);
        x.weighs(1, 8);
        x.edgeLink(1, 1, 2, 7);
        x.weighs(3, 12);
        x.edgeLink(2, 2, 3, 7);
        x.weighs(7, 14);
        x.edgeLink(3, 2, 3, 7);
        x.weighs(11, 22);
    }

    private static void anEdgeOfTwoLinksCountsTwice() {
        Run x = Run.withNodes(2);
        x.edge(0, 1, 0, 20).is(0);
        x.anySpots(2);
        for (int j = 0; j < 4; j++) {
            x.edgeLink(j, 0, 1, 7);
            x.count().is(1);
            x.weighs(20 * (j + 1), 20 * (j + 1));
        }
    }

    private static void aWayWeighsNothing() {
        Run x = Run.withNodes(2);
        x.edge(0, 1, 0, 20).is(0);
        x.anySpots(2);
        x.wayLink(0, 0, 1, 7);
        x.weighs(0, 0);
        x.edgeLink(1, 0, 1, 7);
        x.weighs(20, 20);
    }

    private static void listedByTheNodesFirst() {
        Run x = Run.withNodes(2);
        x.addEdge(1, 1, 0).is(0);
        x.addEdge(0, 1, 0).is(1);
        x.addEdge(0, 0, 0).is(2);
        x.addEdge(0, 0, 0).is(3);
        x.anySpots(2);
        x.edgeLink(0, 0, 1, 7);
        x.matchesAre("0 0 - - | 2 - - -", "0 0 - - | 3 - - -", "0 1 - - | 1 - - -", "1 1 - - | 0 - - -");
    }

    private static void listedBySpotsInTheirOrder() {
        for (int given = 0; given < 2; given++) {
            Run x = Run.withNodes(2);
            for (int i = 0; i < 4; i++) {
                x.anySpot(given == 0 ? i : 3 - i);
            }
            x.count().is(16);
            for (int k = 0; k < 16; k++) {
                for (int i = 0; i < 4; i++) {
                    x.part(k, i).is(k >> (3 - i) & 1);
                }
            }
        }
    }

    private static void listedByLinksInTheirOrder() {
        for (int given = 0; given < 2; given++) {
            Run x = Run.withNodes(1);
            x.edge(0, 0, 0, 7);
            x.edge(0, 0, 1, 3);
            x.anySpots(1);
            for (int j = 0; j < 4; j++) {
                x.edgeLink(given == 0 ? j : 3 - j, 0, 0, 7);
            }
            x.count().is(16);
            for (int k = 0; k < 16; k++) {
                for (int j = 0; j < 4; j++) {
                    x.part(k, 4 + j).is(k >> (3 - j) & 1);
                }
            }
        }
    }

    private static void listedByNumber() {
        // Node 10 comes after node 9, and a number that was given anew keeps its place.
        Run x = Run.withNodes(12);
        x.removeNode(4).is(0);
        x.addNode(0, 0).is(4);
        x.anySpots(1);
        for (int k = 0; k < 12; k++) {
            x.part(k, 0).is(k);
        }
        for (int e = 0; e < 12; e++) {
            x.addEdge(11, 11, 0).is(e);
        }
        x.removeEdge(3).isTrue();
        x.addEdge(11, 11, 0).is(3);
        x.edgeLink(0, 0, 0, 7);
        for (int k = 0; k < 12; k++) {
            x.part(k, 4).is(k);
        }
    }

    private static void oneAtHandAndOneKept() {
        Run x = Run.withNodes(3);
        x.anySpots(1);
        x.keep().is(3);
        x.anySpots(2);
        x.count().is(9);
        x.kept().is(3);
        x.keep().is(9);
        x.begin(1).isTrue();
        x.anySpots(2);
        x.count().is(6);
        x.kept().is(9);
    }

    private static void edgesAndNodes() {
        Sentences.test("at most 512 calls: the 512th, of nodes", TermsTest::the512thCallOfNodes);
        Sentences.test("at most 512 calls: the 512th, of edges", TermsTest::the512thCallOfEdges);
        Sentences.test("at most 512 calls: the 512th, of patterns", TermsTest::the512thCallOfPatterns);
        Sentences.test("at most 512 calls: the 512th, after refusals", TermsTest::the512thCallAfterRefusals);
        Sentences.test("at most 512 calls: the 512th, beyond FULL", TermsTest::the512thCallThatIsTooMany);
        Sentences.test("at most 512 calls: the 512th, of each method", TermsTest::the512thCallOfEachMethod);
        Sentences.test("at most twelve NODES", TermsTest::twelveNodes);
        Sentences.test("nodes with numbers 0 .. 11", TermsTest::nodeNumbers);
        Sentences.test("a LABEL (0 .. 3)", TermsTest::labels);
        Sentences.test("a VALUE (-99 .. 99)", TermsTest::values);
        Sentences.test("at most twenty EDGES", TermsTest::twentyEdges);
        Sentences.test("edges with numbers 0 .. 19", TermsTest::edgeNumbers);
        Sentences.test("an edge goes from a node to a node", TermsTest::edgesBetweenAnyTwoNodes);
        Sentences.test("an edge to the same node", TermsTest::anEdgeToTheSameNode);
        Sentences.test("a TYPE (0 .. 2)", TermsTest::types);
        Sentences.test("a WEIGHT (0 .. 20)", TermsTest::weights);
        Sentences.test("Several edges may go from one node to another", TermsTest::parallelEdges);
        Sentences.test("Several edges from a node to itself", TermsTest::parallelLoops);
        Sentences.test("A SET of labels, bit t for label t", TermsTest::setsOfLabels);
        Sentences.test("A SET of types, bit t for type t", TermsTest::setsOfTypes);
        Sentences.test("a WAY, the first from x", TermsTest::aWayBeginsAtItsNode);
        Sentences.test("a WAY, each next one from where the one before it goes to", TermsTest::aWayGoesOnWhereItCame);
        Sentences.test("a WAY, over any node between", TermsTest::aWayTakesAnyBranch);
        Sentences.test("a WAY, the last one to y, perhaps x itself", TermsTest::aWayMayComeBack);
    }

    private static void patterns() {
        Sentences.test("SPOTS, out of 0 .. 3", TermsTest::everyChoiceOfSpots);
        Sentences.test("LINKS, out of 0 .. 3", TermsTest::everyChoiceOfLinks);
        Sentences.test("a link from a spot to the same", TermsTest::aLinkToTheSameSpot);
        Sentences.test("value from its least to its greatest", TermsTest::valuesFromLeastToGreatest);
        Sentences.test("label in its set and value in its range", TermsTest::labelAndValueBoth);
        Sentences.test("gives every spot of the pattern a node", TermsTest::everySpotHasANode);
        Sentences.test("an edge, from the node of its first spot to that of its second",
            TermsTest::anEdgeFromFirstToSecond);
        Sentences.test("an edge whose type is in its set", TermsTest::anEdgeOfTheSet);
        Sentences.test("kind 0: an edge, not a longer way", TermsTest::anEdgeIsNotALongerWay);
        Sentences.test("kind 1: no way of no edges", () -> waysOf(0, false));
        Sentences.test("kind 1: a way of one edge", () -> waysOf(1, true));
        Sentences.test("kind 1: a way of two edges", () -> waysOf(2, true));
        Sentences.test("kind 1: a way of three edges", () -> waysOf(3, true));
        Sentences.test("kind 1: no way of four edges", () -> waysOf(4, false));
        Sentences.test("kind 1: no way of five edges", () -> waysOf(5, false));
        Sentences.test("kind 1: all with types in its set", TermsTest::aWayWithinTheSet);
        Sentences.test("kind 1: the nodes between are free", TermsTest::aWayOverAnyNodes);
        Sentences.test("kind 1: a way makes no match of its own", TermsTest::waysDoNotMakeMatches);
    }

    private static void modesAndMatches() {
        Sentences.test("mode 0: spots may have the same node", () -> differentNodes(0, false));
        Sentences.test("mode 1: different spots have different nodes", () -> differentNodes(1, true));
        Sentences.test("mode 2: spots may have the same node", () -> differentNodes(2, false));
        Sentences.test("mode 3: different spots have different nodes", () -> differentNodes(3, true));
        Sentences.test("mode 0: links may have the same edge", () -> differentEdges(0, false));
        Sentences.test("mode 1: links may have the same edge", () -> differentEdges(1, false));
        Sentences.test("mode 2: different links have different edges", () -> differentEdges(2, true));
        Sentences.test("mode 3: different links have different edges", () -> differentEdges(3, true));
        Sentences.test("the modes, for links between different spots", TermsTest::edgesOfDifferentSpots);
        Sentences.test("the modes 2 and 3 are for links of kind 0", TermsTest::waysShareEdges);
        Sentences.test("Matches are different: another node, or another edge", TermsTest::anotherNodeOrEdge);
        Sentences.test("The WEIGHT of a match is the sum", TermsTest::weightIsTheSum);
        Sentences.test("an edge of two links counting twice", TermsTest::anEdgeOfTwoLinksCountsTwice);
        Sentences.test("the WEIGHT is that of edges of links, not of ways", TermsTest::aWayWeighsNothing);
        Sentences.test("listed by the nodes, then by the edges", TermsTest::listedByTheNodesFirst);
        Sentences.test("listed by the spots 0, 1, 2, 3", TermsTest::listedBySpotsInTheirOrder);
        Sentences.test("listed by the links 0, 1, 2, 3", TermsTest::listedByLinksInTheirOrder);
        Sentences.test("the dictionary order, by numbers", TermsTest::listedByNumber);
        Sentences.test("one pattern at hand, and one that is KEPT", TermsTest::oneAtHandAndOneKept);
    }

    public static void main(String[] args) {
        edgesAndNodes();
        patterns();
        modesAndMatches();
        Sentences.end();
    }
}
