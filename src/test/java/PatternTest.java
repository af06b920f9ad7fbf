/** The sentences of the promises 10 to 17 that name a boundary case, a test for each. */
public final class PatternTest {
    private static final int MIN = Run.MIN;
    private static final int MAX = Run.MAX;

    /** Two nodes with two edges from 0 to 1, and the pattern at hand of a mode, with two spots and two links. */
    private static Run twoLinks(int mode) {
        Run x = Run.withNodes(2);
        x.edge(0, 1, 0, 2).is(0);
        x.edge(0, 1, 1, 9).is(1);
        x.begin(mode).isTrue();
        x.anySpots(2);
        x.edgeLink(0, 0, 1, 7);
        x.edgeLink(1, 0, 1, 7);
        return x;
    }

    private static void beginWithEachMode() {
        int[] nodesDue = {4, 2, 4, 2};
        int[] edgesDue = {4, 4, 2, 2};
        for (int mode = 0; mode < 4; mode++) {
            for (int before = 0; before < 4; before++) {
                Run x = twoLinks(before);
                x.begin(mode).isTrue();
                x.anySpots(2);
                x.count().is(nodesDue[mode]);
                x.edgeLink(0, 0, 1, 7);
                x.edgeLink(1, 0, 1, 7);
                x.count().is(edgesDue[mode]);
            }
        }
    }

    private static void beginWithoutSpots() {
        Run x = Run.withNodes(2);
        x.anySpots(4);
        x.count().is(16);
        x.begin(0).isTrue();
        x.count().is(1);
        for (int i = 0; i < 4; i++) {
            x.part(0, i).isBad();
            x.link(0, 5 * i, 7, 0).isFalse();
        }
        x.anySpot(2);
        x.count().is(2);
        x.link(0, 2, 7, 0).isFalse();
        x.link(0, 8, 7, 0).isFalse();
    }

    private static void beginWithoutLinks() {
        for (int kind = 0; kind < 2; kind++) {
            Run x = Run.withNodes(2);
            x.anySpots(2);
            for (int j = 0; j < 4; j++) {
                x.link(j, 4, 7, kind).isTrue();
            }
            x.count().is(0);
            x.begin(0).isTrue();
            x.count().is(1);
            x.anySpots(2);
            x.count().is(4);
            x.weighs(0, 0);
            for (int part = 4; part < 8; part++) {
                x.part(0, part).isBad();
            }
        }
    }

    private static void beginLeavesTheRest() {
        Run x = twoLinks(3);
        x.keep().is(2);
        x.begin(0).isTrue();
        x.kept().is(2);
        x.nodes().is(3);
        x.degree(0, 0).is(2);
        x.begin(2).isTrue();
        x.kept().is(2);
    }

    private static void beginModeOutOfRange() {
        int[] due = {4, 4, 2, 2};
        for (int mode = 0; mode < 4; mode++) {
            Run x = twoLinks(mode);
            for (int wrong : Run.outside(0, 3)) {
                x.begin(wrong).isFalse();
            }
            x.count().is(due[mode]);
            x.part(0, 0).is(0);
            x.part(0, 5).is(mode < 2 ? 0 : 1);
            x.begin(mode).isTrue();
            x.begin(4).isFalse();
            x.anySpots(2);
            x.count().is(mode % 2 == 0 ? 4 : 2);
        }
    }

    private static void spotInAnyPlace() {
        for (int i = 0; i < 4; i++) {
            Run x = new Run();
            x.addNode(2, 7).is(0);
            x.addNode(1, 7).is(1);
            x.spot(i, 2, 7, 7).isTrue();
            x.count().is(1);
            for (int part = 0; part < 8; part++) {
                x.part(0, part).is(part == i ? 1 : -1);
            }
        }
    }

    private static void spotWithAnyInts() {
        Run x = new Run();
        x.addNode(0, -99).is(0);
        x.addNode(0, 0).is(1);
        x.addNode(0, 99).is(2);
        int[][] rangeAndNumber = {{MIN, MAX, 3}, {MIN, MIN, 0}, {MAX, MAX, 0}, {MAX, MIN, 0}, {MIN, -100, 0},
            {100, MAX, 0}, {MIN, -99, 1}, {99, MAX, 1}, {-100, 100, 3}, {-99, 99, 3}, {-98, 98, 1}, {MIN, 0, 2},
            {0, MAX, 2}, {1, MAX, 1}, {MIN, -1, 1}, {99, -99, 0}, {MIN + 1, MAX - 1, 3}, {256, 512, 0},
            {-65536, 65536, 3}, {-356, -157, 0}};
        for (int[] r : rangeAndNumber) {
            x.spot(0, 15, r[0], r[1]).isTrue();
            x.count().is(r[2]);
        }
    }

    private static void spotInPlaceOfWhatItWas() {
        Run x = new Run();
        x.addNode(0, 1).is(0);
        x.addNode(1, 2).is(1);
        x.addNode(2, 3).is(2);
        x.spot(1, 1, 1, 1).isTrue();
        x.matchesAre("- 0 - - | - - - -");
        x.spot(1, 2, 2, 2).isTrue();
        x.matchesAre("- 1 - - | - - - -");
        x.spot(1, 15, 3, 3).isTrue();
        x.matchesAre("- 2 - - | - - - -");
        x.spot(1, 15, MIN, MAX).isTrue();
        x.count().is(3);
        x.spot(1, 0, MIN, MAX).isTrue();
        x.count().is(0);
    }

    private static void spotLeavesTheRestOfThePattern() {
        Run x = twoLinks(3);
        x.spot(1, 15, 0, 0).isTrue();
        x.matchesAre("0 1 - - | 0 1 - -", "0 1 - - | 1 0 - -");
        x.spot(1, 14, 0, 0).isTrue();
        x.count().is(0);
        x.anySpot(1);
        x.count().is(2);
        x.anySpot(2);
        x.count().is(0);
        x.addNode(3, 3).is(2);
        x.matchesAre("0 1 2 - | 0 1 - -", "0 1 2 - | 1 0 - -");
    }

    private static void spotLeavesTheKept() {
        Run x = twoLinks(0);
        x.keep().is(4);
        x.spot(0, 0, 0, 0).isTrue();
        x.spot(3, 0, 0, 0).isTrue();
        x.count().is(0);
        x.kept().is(4);
    }

    private static void spotNumberOutOfRange() {
        Run x = twoLinks(2);
        for (int i : Run.outside(0, 3)) {
            x.spot(i, 0, 5, 5).isFalse();
            x.spot(i, 15, MIN, MAX).isFalse();
        }
        x.matchesAre("0 1 - - | 0 1 - -", "0 1 - - | 1 0 - -");
        x.link(0, 10, 7, 0).isFalse();
        x.link(0, 15, 7, 0).isFalse();
    }

    private static void spotLabelsOutOfRange() {
        Run x = twoLinks(2);
        for (int labels : Run.outside(0, 15)) {
            for (int i = 0; i < 4; i++) {
                x.spot(i, labels, 5, 5).isFalse();
            }
        }
        x.matchesAre("0 1 - - | 0 1 - -", "0 1 - - | 1 0 - -");
        // Nor has the pattern got the spots 2 and 3 by it.
        x.link(0, 10, 7, 0).isFalse();
        x.link(0, 15, 7, 0).isFalse();
        x.spot(2, 0, MIN, MAX).isTrue();
        x.count().is(0);
        x.spot(2, 15, MIN, MAX).isTrue();
        x.count().is(4);
    }

    private static void spotBothOutOfRange() {
        Run x = twoLinks(2);
        x.spot(4, 16, 0, 0).isFalse();
        x.spot(-1, -1, 0, 0).isFalse();
        x.count().is(2);
    }

    private static void linkFromAndTo() {
        for (int a = 0; a < 4; a++) {
            for (int b = 0; b < 4; b++) {
                Run x = new Run();
                for (int n = 0; n < 4; n++) {
                    x.addNode(n, n).is(n);
                    x.spot(n, 1 << n, n, n).isTrue();
                }
                x.addEdge(a, b, 0).is(0);
                for (int ab = 0; ab < 16; ab++) {
                    boolean same = ab % 4 == a && ab / 4 == b;
                    x.link(0, ab, 1, 0).isTrue();
                    x.count().is(same ? 1 : 0);
                    x.part(0, 4).is(same ? 0 : -1);
                    x.link(0, ab, 1, 1).isTrue();
                    x.count().is(same ? 1 : 0);
                }
            }
        }
    }

    private static void linkNeedsBothSpots() {
        for (int spots = 0; spots < 16; spots++) {
            for (int ab = 0; ab < 16; ab++) {
                Run x = Run.withNodes(1);
                for (int i = 0; i < 4; i++) {
                    if ((spots >> i & 1) == 1) {
                        x.anySpot(i);
                    }
                }
                boolean both = (spots >> ab % 4 & 1) == 1 && (spots >> ab / 4 & 1) == 1;
                x.link(1, ab, 7, 0).is(both ? 1 : 0);
                x.link(2, ab, 7, 1).is(both ? 1 : 0);
                // There is no edge, so that a pattern with a link finds nothing.
                x.count().is(both ? 0 : 1);
            }
        }
    }

    private static void linkInAnyPlace() {
        for (int j = 0; j < 4; j++) {
            Run x = Run.withNodes(2);
            x.edge(1, 0, 2, 17).is(0);
            x.anySpots(2);
            x.edgeLink(j, 0, 1, 4);
            x.count().is(1);
            for (int part = 4; part < 8; part++) {
                x.part(0, part).is(part == 4 + j ? 0 : -1);
            }
            x.weighs(17, 17);
        }
    }

    private static void linkInPlaceOfWhatItWas() {
        Run x = Run.withNodes(3);
        x.edge(0, 1, 0, 3).is(0);
        x.edge(1, 2, 1, 5).is(1);
        x.anySpots(2);
        x.edgeLink(2, 0, 1, 1);
        x.matchesAre("0 1 - - | - - 0 -");
        x.edgeLink(2, 0, 1, 2);
        x.matchesAre("1 2 - - | - - 1 -");
        x.edgeLink(2, 1, 0, 2);
        x.matchesAre("2 1 - - | - - 1 -");
        x.wayLink(2, 0, 1, 3);
        x.matchesAre("0 1 - - | - - - -", "0 2 - - | - - - -", "1 2 - - | - - - -");
        x.weighs(0, 0);
        x.edgeLink(2, 0, 1, 3);
        x.matchesAre("0 1 - - | - - 0 -", "1 2 - - | - - 1 -");
        x.weighs(3, 5);
        x.edgeLink(2, 0, 1, 4);
        x.matchesAre();
    }

    private static void linkWithNoTypes() {
        for (int kind = 0; kind < 2; kind++) {
            Run x = twoLinks(0);
            x.link(3, 4, 0, kind).isTrue();
            x.count().is(0);
            x.weighs(-1, -1);
            x.link(3, 4, 7, kind).isTrue();
            x.count().is(kind == 0 ? 8 : 4);
        }
    }

    private static void linkLeavesTheKept() {
        Run x = twoLinks(0);
        x.keep().is(4);
        x.edgeLink(0, 1, 0, 7);
        x.edgeLink(3, 1, 1, 7);
        x.count().is(0);
        x.kept().is(4);
    }

    /** Both links of the pattern are as they were, and it has no others. */
    private static void stillTwoLinks(Run x) {
        x.matchesAre("0 1 - - | 0 1 - -", "0 1 - - | 1 0 - -");
        x.weighs(11, 11);
    }

    private static void linkNumberOutOfRange() {
        Run x = twoLinks(3);
        for (int j : Run.outside(0, 3)) {
            x.link(j, 1, 0, 0).isFalse();
        }
        stillTwoLinks(x);
    }

    private static void linkAbOutOfRange() {
        Run x = twoLinks(3);
        for (int ab : Run.outside(0, 15)) {
            x.link(0, ab, 0, 0).isFalse();
            x.link(2, ab, 7, 1).isFalse();
        }
        stillTwoLinks(x);
        x.anySpots(4);
        x.link(0, 16, 0, 0).isFalse();
        x.link(0, -1, 0, 0).isFalse();
        x.addNode(0, 0).is(2);
        x.addNode(0, 0).is(3);
        x.count().is(4);
    }

    private static void linkWithoutSpotsChangesNothing() {
        Run x = twoLinks(3);
        int[] missing = {2, 3, 6, 7, 8, 9, 10, 11, 12, 13, 14, 15};
        for (int ab : missing) {
            x.link(0, ab, 0, 0).isFalse();
            x.link(3, ab, 0, 1).isFalse();
        }
        stillTwoLinks(x);
    }

    private static void linkTypesOutOfRange() {
        Run x = twoLinks(3);
        for (int types : Run.outside(0, 7)) {
            x.link(0, 1, types, 0).isFalse();
            x.link(2, 1, types, 1).isFalse();
        }
        stillTwoLinks(x);
    }

    private static void linkKindOutOfRange() {
        Run x = twoLinks(3);
        for (int kind : Run.outside(0, 1)) {
            x.link(0, 1, 0, kind).isFalse();
            x.link(2, 1, 0, kind).isFalse();
        }
        stillTwoLinks(x);
    }

    private static void countWithoutSpots() {
        for (int mode = 0; mode < 4; mode++) {
            Run x = new Run();
            x.begin(mode).isTrue();
            x.count().is(1);
            x.addNode(0, 0).is(0);
            x.addEdge(0, 0, 0).is(0);
            x.count().is(1);
            x.keep().is(1);
            x.weighs(0, 0);
        }
    }

    private static void countOfNone() {
        Run x = new Run();
        x.anySpot(3);
        x.count().is(0);
        x.addNode(0, 0).is(0);
        x.count().is(1);
        x.removeNode(0).is(0);
        x.count().is(0);
    }

    private static void countOfMany() {
        Run x = Run.withNodes(12);
        x.anySpots(3);
        x.count().is(1728);
        x.anySpots(4);
        x.count().is(20736);
        x.begin(1).isTrue();
        x.anySpots(4);
        x.count().is(11880);
    }

    private static void countOfTheMost() {
        Run x = Run.withNodes(12);
        for (int e = 0; e < 20; e++) {
            x.addEdge(11, 11, 62).is(e);
        }
        // Twelve or fewer nodes for each of three spots, twenty or fewer edges for each of four links.
        int[] due = {1728 * 160000, 990 * 160000, 1728 * 116280, 990 * 116280};
        for (int mode = 3; mode >= 0; mode--) {
            x.begin(mode).isTrue();
            x.anySpots(4);
            for (int j = 0; j < 4; j++) {
                x.edgeLink(j, 0, 0, 7);
            }
            x.count().is(due[mode]);
        }
        x.keep().is(due[0]);
        x.kept().is(due[0]);
        x.weigh(0).is(80);
    }

    private static void partOfSpotsAndLinks() {
        Run x = Run.withNodes(4);
        for (int n = 0; n < 4; n++) {
            x.setNode(n, n, 0).isTrue();
            x.spot(n, 1 << (3 - n), 0, 0).isTrue();
        }
        for (int e = 0; e < 4; e++) {
            x.addEdge(e, e, 0).is(e);
            x.edgeLink(e, e, e, 7);
        }
        x.matchesAre("3 2 1 0 | 3 2 1 0");
    }

    private static void partKBelow0() {
        Run x = Run.withNodes(12);
        x.anySpots(4);
        int[] below = {-1, -2, -1000, MIN, MIN + 1, -65536, -1048576, MIN + 999};
        for (int k : below) {
            x.part(k, 0).isBad();
            x.part(k, 3).isBad();
        }
        x.part(0, 3).is(0);
    }

    private static void partKAbove999() {
        Run x = Run.withNodes(12);
        x.anySpots(4);
        x.count().is(20736);
        int[] nodes = {0, 6, 11, 3};
        for (int i = 0; i < 4; i++) {
            x.part(999, i).is(nodes[i]);
            for (int k : Run.outside(0, 999)) {
                x.part(k, i).isBad();
            }
        }
    }

    private static void partOfExactlyAThousand() {
        Run x = Run.withNodes(10);
        x.anySpots(3);
        x.count().is(1000);
        for (int i = 0; i < 3; i++) {
            x.part(999, i).is(9);
            x.part(1000, i).isBad();
        }
        x.part(998, 2).is(8);
        x.removeNode(9).is(0);
        x.count().is(729);
        x.part(728, 0).is(8);
        x.part(729, 0).isBad();
        x.part(999, 0).isBad();
    }

    private static void partOfExactly999() {
        // (100 + 9 + 1 + 1) choices of two loops at one node, for each of the nine nodes of the other spot.
        Run x = Run.withNodes(9);
        int[] loops = {10, 3, 1, 1};
        for (int n = 0; n < 4; n++) {
            for (int one = 0; one < loops[n]; one++) {
                x.addEdge(n, n, 0);
            }
        }
        x.anySpots(2);
        x.edgeLink(0, 0, 0, 7);
        x.edgeLink(1, 0, 0, 7);
        x.count().is(999);
        x.part(998, 0).is(3);
        x.part(998, 1).is(8);
        x.part(998, 4).is(14);
        x.part(999, 0).isBad();
        x.part(999, 4).isBad();
        x.addEdge(8, 8, 0).is(15);
        x.count().is(1008);
        x.part(999, 0).is(8);
        x.part(999, 1).is(0);
        x.part(999, 4).is(15);
        x.part(1000, 4).isBad();
    }

    private static void partAtTheEndOfTheList() {
        Run x = twoLinks(0);
        x.count().is(4);
        x.part(3, 4).is(1);
        x.part(3, 5).is(1);
        for (int part = 0; part < 8; part++) {
            x.part(4, part).isBad();
            x.part(5, part).isBad();
            x.part(999, part).isBad();
        }
    }

    private static void partOfNoMatch() {
        Run x = twoLinks(0);
        x.spot(1, 0, 0, 0).isTrue();
        for (int part = 0; part < 8; part++) {
            x.part(0, part).isBad();
        }
    }

    private static void partOfTheEmptyPattern() {
        Run x = Run.withNodes(2);
        x.addEdge(0, 0, 0).is(0);
        for (int part = 0; part < 8; part++) {
            x.part(0, part).isBad();
            x.part(1, part).isBad();
        }
    }

    private static void partOfNoSuchSpotOrLink() {
        Run x = Run.withNodes(1);
        x.addEdge(0, 0, 0).is(0);
        x.anySpot(1);
        x.anySpot(2);
        x.edgeLink(0, 1, 2, 7);
        x.edgeLink(3, 2, 1, 7);
        x.matchesAre("- 0 0 - | 0 - - 0");
        for (int part : Run.outside(0, 7)) {
            x.part(0, part).isBad();
        }
    }

    private static void partOfAWay() {
        for (int j = 0; j < 4; j++) {
            Run x = Run.withNodes(1);
            x.addEdge(0, 0, 0).is(0);
            x.anySpots(1);
            for (int other = 0; other < 4; other++) {
                x.edgeLink(other, 0, 0, 7);
            }
            x.part(0, 4 + j).is(0);
            x.wayLink(j, 0, 0, 7);
            for (int other = 0; other < 4; other++) {
                x.part(0, 4 + other).is(other == j ? -1 : 0);
            }
        }
    }

    private static void weighLeastAndGreatest() {
        Run x = Run.withNodes(2);
        x.edge(0, 1, 0, 11).is(0);
        x.edge(0, 1, 0, 4).is(1);
        x.edge(0, 1, 0, 20).is(2);
        x.edge(0, 1, 0, 5).is(3);
        x.anySpots(2);
        x.edgeLink(0, 0, 1, 7);
        x.weighs(4, 20);
        x.edgeLink(3, 0, 1, 7);
        x.weighs(8, 40);
        x.begin(2).isTrue();
        x.anySpots(2);
        x.edgeLink(0, 0, 1, 7);
        x.edgeLink(3, 0, 1, 7);
        x.weighs(9, 31);
    }

    private static void weighWithoutLinks() {
        Run x = Run.withNodes(1);
        x.weighs(0, 0);
        x.edge(0, 0, 0, 9).is(0);
        x.weighs(0, 0);
        x.anySpots(1);
        x.weighs(0, 0);
    }

    private static void weighOf0() {
        Run x = Run.withNodes(2);
        x.edge(0, 1, 0, 0).is(0);
        x.anySpots(2);
        for (int j = 0; j < 4; j++) {
            x.edgeLink(j, 0, 1, 7);
            x.weighs(0, 0);
        }
    }

    private static void weighOf80() {
        Run x = Run.withNodes(2);
        x.edge(0, 1, 0, 20).is(0);
        x.edge(1, 0, 0, 0).is(1);
        x.anySpots(2);
        for (int j = 0; j < 4; j++) {
            x.edgeLink(j, 0, 1, 7);
        }
        x.weighs(0, 80);
    }

    private static void weighWithoutMatch() {
        Run x = new Run();
        x.anySpots(1);
        x.weighs(-1, -1);
        x.addNode(0, 0).is(0);
        x.weighs(0, 0);
        x.edgeLink(0, 0, 0, 7);
        x.weighs(-1, -1);
        x.edge(0, 0, 0, 6).is(0);
        x.weighs(6, 6);
        x.removeEdge(0).isTrue();
        x.weighs(-1, -1);
    }

    private static void weighWhatOutOfRange() {
        Run x = twoLinks(0);
        for (int what : Run.outside(0, 1)) {
            x.weigh(what).isBad();
        }
        x.weighs(4, 18);
        x.spot(0, 0, 0, 0).isTrue();
        x.weigh(2).isBad();
        x.weigh(-1).isBad();
    }

    private static void keepLeavesItAtHand() {
        Run x = twoLinks(3);
        x.keep().is(2);
        stillTwoLinks(x);
        x.edgeLink(1, 0, 1, 1);
        x.matchesAre("0 1 - - | 1 0 - -");
        x.kept().is(2);
    }

    private static void keepEveryMode() {
        int[] due = {4, 4, 2, 2};
        for (int mode = 0; mode < 4; mode++) {
            Run x = twoLinks(mode);
            x.keep().is(due[mode]);
            x.begin(3 - mode).isTrue();
            x.kept().is(due[mode]);
            x.begin(mode).isTrue();
            x.anySpots(2);
            x.keep().is(mode % 2 == 0 ? 4 : 2);
            x.begin(3 - mode).isTrue();
            x.kept().is(mode % 2 == 0 ? 4 : 2);
        }
    }

    private static void keepEverySpot() {
        for (int i = 0; i < 4; i++) {
            Run x = new Run();
            for (int n = 0; n < 12; n++) {
                x.addNode(n % 4, n).is(n);
            }
            x.spot(i, 6, 2, 9).isTrue();
            x.keep().is(4);
            x.spot(i, 15, 2, 9).isTrue();
            x.kept().is(4);
            x.keep().is(8);
            x.spot(i, 15, 0, 9).isTrue();
            x.kept().is(8);
            x.keep().is(10);
            x.spot(i, 15, 0, 11).isTrue();
            x.kept().is(10);
            x.keep().is(12);
            x.begin(0).isTrue();
            x.kept().is(12);
        }
    }

    private static void keepEveryLink() {
        for (int j = 0; j < 4; j++) {
            Run x = Run.withNodes(3);
            x.edge(0, 1, 0, 0).is(0);
            x.edge(1, 2, 1, 0).is(1);
            x.anySpots(3);
            x.edgeLink(j, 0, 1, 1);
            x.keep().is(3);
            x.edgeLink(j, 0, 1, 3);
            x.kept().is(3);
            x.keep().is(6);
            x.wayLink(j, 0, 1, 3);
            x.kept().is(6);
            x.keep().is(9);
            x.wayLink(j, 0, 0, 3);
            x.kept().is(9);
            x.keep().is(0);
            x.wayLink(j, 1, 2, 3);
            x.kept().is(0);
            x.keep().is(9);
        }
    }

    /** Each spot has nodes of its own choice, so that another end of a link shows. */
    private static void keepBothEnds() {
        int[][] edges = {{0, 1}, {1, 3}, {2, 2}, {3, 0}, {4, 5}, {5, 5}, {6, 4}, {0, 6}, {3, 3}, {1, 2}};
        for (int ab = 0; ab < 16; ab++) {
            Run x = new Run();
            for (int n = 0; n < 7; n++) {
                x.addNode(0, n).is(n);
            }
            for (int[] edge : edges) {
                x.addEdge(edge[0], edge[1], 0);
            }
            for (int i = 0; i < 4; i++) {
                x.spot(i, 1, i, i + 3).isTrue();
            }
            // Each spot has four nodes, so the spots without the link leave sixteen or sixty-four choices.
            int due = 0;
            for (int[] edge : edges) {
                boolean fits = within(edge[0], ab % 4) && within(edge[1], ab / 4);
                if (fits && ab % 4 == ab / 4) {
                    due += edge[0] == edge[1] ? 64 : 0;
                } else if (fits) {
                    due += 16;
                }
            }
            int j = ab * 7 % 4;
            x.link(j, ab, 1, 0).isTrue();
            x.keep().is(due);
            for (int other = 0; other < 16; other++) {
                x.link(j, other, 1, other % 2).isTrue();
                x.kept().is(due);
            }
        }
    }

    private static boolean within(int node, int spot) {
        return spot <= node && node <= spot + 3;
    }

    /** A pattern that is kept puts the one before it away whole: no spot and no link of it is left. */
    private static void keepPutsTheOldAway() {
        Run x = Run.withNodes(3);
        x.begin(3).isTrue();
        x.anySpots(4);
        for (int j = 0; j < 4; j++) {
            x.edgeLink(j, 0, j, 7);
        }
        x.keep().is(0);
        x.begin(0).isTrue();
        x.keep().is(1);
        x.kept().is(1);
        x.anySpots(2);
        x.keep().is(9);
        x.kept().is(9);
        x.wayLink(2, 0, 1, 7);
        x.keep().is(0);
        x.begin(0).isTrue();
        x.anySpot(3);
        x.keep().is(3);
        x.kept().is(3);
    }

    private static void keepOfNoMatch() {
        Run x = new Run();
        x.anySpots(1);
        x.keep().is(0);
        x.begin(0).isTrue();
        x.kept().is(0);
        x.addNode(0, 0).is(0);
        x.kept().is(1);
    }

    private static void keepTwice() {
        Run x = twoLinks(2);
        x.keep().is(2);
        x.keep().is(2);
        x.kept().is(2);
        stillTwoLinks(x);
    }

    private static void keptOfANewObject() {
        Run x = Run.withNodes(3);
        x.kept().is(1);
        x.anySpots(1);
        x.kept().is(1);
        x.begin(3).isTrue();
        x.kept().is(1);
    }

    private static void keptCountsAnew() {
        Run x = twoLinks(0);
        x.wayLink(2, 0, 1, 7);
        x.keep().is(4);
        x.begin(1).isTrue();
        x.edge(0, 1, 2, 0).is(2);
        x.kept().is(9);
        x.removeEdge(0).isTrue();
        x.kept().is(4);
        x.addNode(0, 0).is(2);
        x.kept().is(4);
        x.addEdge(2, 1, 0).is(0);
        x.kept().is(5);
        x.removeNode(0).is(2);
        x.kept().is(1);
        x.removeNode(1).is(1);
        x.kept().is(0);
        x.count().is(1);
    }

    private static void keptFollowsLabelsAndValues() {
        Run x = new Run();
        x.addNode(1, 5).is(0);
        x.addNode(1, 5).is(1);
        x.spot(0, 2, 5, 5).isTrue();
        x.keep().is(2);
        x.begin(0).isTrue();
        x.setNode(0, 1, 6).isTrue();
        x.kept().is(1);
        x.setNode(1, 2, 5).isTrue();
        x.kept().is(0);
        x.setNode(0, 1, 5).isTrue();
        x.kept().is(1);
    }

    private static void answersDoNotHangOnEachOther() {
        Run x = twoLinks(2);
        x.keep().is(2);
        x.edgeLink(2, 0, 1, 7);
        for (int round = 0; round < 3; round++) {
            x.count().is(0);
            x.kept().is(2);
            x.weigh(0).isBad();
            x.part(0, 0).isBad();
        }
        x.wayLink(2, 0, 1, 7);
        for (int round = 0; round < 3; round++) {
            x.part(1, 4).is(1);
            x.part(0, 4).is(0);
            x.weigh(1).is(11);
            x.part(2, 4).isBad();
            x.kept().is(2);
            x.count().is(2);
            x.reach(0, 7, 1).is(2);
            x.degree(0, 0).is(2);
        }
    }

    private static void promises10And11() {
        Sentences.test("10 with a mode (0 .. 3)", PatternTest::beginWithEachMode);
        Sentences.test("10 without spots", PatternTest::beginWithoutSpots);
        Sentences.test("10 without links", PatternTest::beginWithoutLinks);
        Sentences.test("10 the pattern at hand alone", PatternTest::beginLeavesTheRest);
        Sentences.test("10 false when mode is out of range", PatternTest::beginModeOutOfRange);
        Sentences.test("11 spot i", PatternTest::spotInAnyPlace);
        Sentences.test("11 a least and a greatest value (any ints)", PatternTest::spotWithAnyInts);
        Sentences.test("11 in place of what it was", PatternTest::spotInPlaceOfWhatItWas);
        Sentences.test("11 the spot alone: links and mode stay", PatternTest::spotLeavesTheRestOfThePattern);
        Sentences.test("11 the pattern at hand alone", PatternTest::spotLeavesTheKept);
        Sentences.test("11 false when i is not 0 .. 3", PatternTest::spotNumberOutOfRange);
        Sentences.test("11 false when labels is out of range (0 .. 15)", PatternTest::spotLabelsOutOfRange);
        Sentences.test("11 false when both are", PatternTest::spotBothOutOfRange);
    }

    private static void promise12() {
        Sentences.test("12 from spot ab mod 4 to spot ab / 4", PatternTest::linkFromAndTo);
        Sentences.test("12 false when the pattern has not both spots", PatternTest::linkNeedsBothSpots);
        Sentences.test("12 link j", PatternTest::linkInAnyPlace);
        Sentences.test("12 in place of what it was", PatternTest::linkInPlaceOfWhatItWas);
        Sentences.test("12 a set of no types", PatternTest::linkWithNoTypes);
        Sentences.test("12 the pattern at hand alone", PatternTest::linkLeavesTheKept);
        Sentences.test("12 false when j is not 0 .. 3", PatternTest::linkNumberOutOfRange);
        Sentences.test("12 false when ab is not 0 .. 15", PatternTest::linkAbOutOfRange);
        Sentences.test("12 changing nothing, when a spot is missing", PatternTest::linkWithoutSpotsChangesNothing);
        Sentences.test("12 false when types is not 0 .. 7", PatternTest::linkTypesOutOfRange);
        Sentences.test("12 false when kind is not 0 or 1", PatternTest::linkKindOutOfRange);
    }

    private static void promises13And14() {
        Sentences.test("13 1 when it has no spots", PatternTest::countWithoutSpots);
        Sentences.test("13 no match", PatternTest::countOfNone);
        Sentences.test("13 more matches than can be listed", PatternTest::countOfMany);
        Sentences.test("13 as many matches as there can be", PatternTest::countOfTheMost);
        Sentences.test("14 spot part (0 .. 3), link part - 4 (4 .. 7)", PatternTest::partOfSpotsAndLinks);
        Sentences.test("14 BAD when k is below 0", PatternTest::partKBelow0);
        Sentences.test("14 BAD when k is above 999", PatternTest::partKAbove999);
        Sentences.test("14 match 999 of a thousand", PatternTest::partOfExactlyAThousand);
        Sentences.test("14 no match 999 of 999", PatternTest::partOfExactly999);
        Sentences.test("14 BAD when there is no match k", PatternTest::partAtTheEndOfTheList);
        Sentences.test("14 BAD when there is no match", PatternTest::partOfNoMatch);
        Sentences.test("14 BAD when there is no spot", PatternTest::partOfTheEmptyPattern);
        Sentences.test("14 BAD when there is no such spot or link", PatternTest::partOfNoSuchSpotOrLink);
        Sentences.test("14 BAD when the link is not of kind 0", PatternTest::partOfAWay);
    }

    private static void promises15To17() {
        Sentences.test("15 The least (what 0) or greatest (what 1)", PatternTest::weighLeastAndGreatest);
        Sentences.test("15 a match without links", PatternTest::weighWithoutLinks);
        Sentences.test("15 the weight 0", PatternTest::weighOf0);
        Sentences.test("15 the weight 80", PatternTest::weighOf80);
        Sentences.test("15 BAD when there is none", PatternTest::weighWithoutMatch);
        Sentences.test("15 BAD when what is not 0 or 1", PatternTest::weighWhatOutOfRange);
        Sentences.test("16 kept, too: it stays at hand", PatternTest::keepLeavesItAtHand);
        Sentences.test("16 with its mode", PatternTest::keepEveryMode);
        Sentences.test("16 with its spots", PatternTest::keepEverySpot);
        Sentences.test("16 with its links", PatternTest::keepEveryLink);
        Sentences.test("16 with both ends of its links", PatternTest::keepBothEnds);
        Sentences.test("16 in place of the one before", PatternTest::keepPutsTheOldAway);
        Sentences.test("16 a pattern without matches", PatternTest::keepOfNoMatch);
        Sentences.test("16 the same pattern again", PatternTest::keepTwice);
        Sentences.test("17 nothing was kept yet", PatternTest::keptOfANewObject);
        Sentences.test("17 counted in the store as it is now", PatternTest::keptCountsAnew);
        Sentences.test("17 with labels and values as they are now", PatternTest::keptFollowsLabelsAndValues);
        Sentences.test("13 to 17 a call that asks changes nothing", PatternTest::answersDoNotHangOnEachOther);
    }

    public static void main(String[] args) {
        promises10And11();
        promise12();
        promises13And14();
        promises15To17();
        Sentences.end();
    }
}
