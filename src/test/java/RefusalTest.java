import java.util.ArrayList;
import java.util.List;
import java.util.function.Consumer;

/**
 * Promise 18: a call that is refused changes nothing. Each is made in several states, and every later answer is held
 * against those of the model, on which it was not made.
 */
public final class RefusalTest {
    private static final int MIN = Run.MIN;
    private static final int MAX = Run.MAX;
    private static final int BAD = -1;
    private static final int FULL = -2;
    private static final int FALSE = 0;

    private interface Call {
        Run.Answer on(Run x);
    }

    private static final class State {
        final String name;
        final Consumer<Run> calls;
        final int callsBefore;
        final List<List<Integer>> laterAnswers = new ArrayList<>();

        State(String name, Consumer<Run> calls) {
            this.name = name;
            this.calls = calls;
            callsBefore = build().callsMade();
            for (Consumer<Run> questions : QUESTIONS) {
                Run x = build();
                questions.accept(x);
                List<Integer> answers = new Model().answers(x.calls());
                laterAnswers.add(answers.subList(callsBefore, answers.size()));
            }
        }

        Run build() {
            Run x = new Run();
            calls.accept(x);
            return x;
        }
    }

    // What shows all of the one changes the other: so the questions are asked in three rounds, each of a new object.
    private static final List<Consumer<Run>> QUESTIONS =
        List.of(RefusalTest::askTheStore, RefusalTest::askTheNodes, RefusalTest::askThePatterns);
    private static final State NEW = new State("a new object", x -> { });
    private static final State SOME = new State("some nodes and edges", RefusalTest::someNodesAndEdges);
    private static final State ALL = new State("twelve nodes and twenty edges", RefusalTest::allNodesAndEdges);
    private static final State NO_MATCH = new State("a pattern without matches", RefusalTest::noMatch);
    private static final State[] STATES = {NEW, SOME, ALL, NO_MATCH};

    /** Spots that differ in all they ask, and may all have a node of label 1 and value 0. */
    private static void spots(Run x, int... numbers) {
        int[] labels = {7, 6, 14, 11};
        for (int i : numbers) {
            x.spot(i, labels[i], i - 9, 11 - 2 * i).isTrue();
        }
    }

    /** The nodes 2 and 6 .. 11, the edges 3 and 9 .. 19, the spot 2 and the links 1 and 3 are missing. */
    private static void someNodesAndEdges(Run x) {
        for (int n = 0; n < 6; n++) {
            x.addNode(1 + n % 2, 2 * n - 6).is(n);
        }
        int[][] edges = {{0, 1}, {1, 3}, {3, 4}, {2, 2}, {4, 5}, {5, 0}, {0, 1}, {5, 3}, {1, 1}};
        for (int e = 0; e < 9; e++) {
            x.edge(edges[e][0], edges[e][1], e % 3, e + 1).is(e);
        }
        x.removeNode(2).is(1);
        x.begin(2).isTrue();
        spots(x, 0, 1);
        x.edgeLink(3, 0, 1, 7);
        x.edgeLink(1, 0, 1, 5);
        x.wayLink(0, 1, 0, 3);
        x.keep();
        x.begin(3).isTrue();
        spots(x, 0, 1, 3);
        x.edgeLink(0, 0, 1, 3);
        x.wayLink(2, 0, 3, 5);
    }

    private static void allNodesAndEdges(Run x) {
        for (int n = 0; n < 12; n++) {
            x.addNode(1 + n % 2, n - 6).is(n);
        }
        for (int e = 0; e < 20; e++) {
            x.edge(e % 12, (e + (e < 12 ? 1 : e % 3 + 11)) % 12, e % 3, e).is(e);
        }
        x.begin(1).isTrue();
        spots(x, 0, 2, 3);
        x.wayLink(1, 0, 2, 3);
        x.edgeLink(0, 2, 3, 7);
        x.edgeLink(2, 2, 3, 6);
        x.keep();
        x.begin(2).isTrue();
        spots(x, 0, 1, 2, 3);
        x.edgeLink(0, 0, 1, 7);
        x.edgeLink(1, 1, 2, 6);
        x.edgeLink(2, 2, 3, 5);
        x.wayLink(3, 0, 3, 7);
    }

    private static void noMatch(Run x) {
        someNodesAndEdges(x);
        x.edgeLink(1, 0, 0, 6);
        x.edgeLink(3, 1, 1, 6);
    }

    private static void askTheStore(Run x) {
        x.nodes();
        for (int n = 0; n < 12; n++) {
            x.degree(n, 0);
            x.degree(n, 1);
            for (int types = 1; types <= 4; types *= 2) {
                x.reach(n, types, 1);
            }
        }
        askMatches(x);
        removeEdges(x);
        fill(x);
    }

    private static void askMatches(Run x) {
        x.count();
        x.kept();
        x.weigh(0);
        x.weigh(1);
        for (int k = 0; k < 3; k++) {
            for (int part = 0; part < 8; part++) {
                x.part(k, part);
            }
        }
    }

    /** The weights grow with the numbers of the edges, so that the least one left tells each of them. */
    private static void removeEdges(Run x) {
        x.begin(0);
        x.anySpots(2);
        x.edgeLink(0, 0, 1, 7);
        for (int e = 0; e < 20; e++) {
            x.weigh(0);
            x.weigh(1);
            x.removeEdge(e);
        }
    }

    private static void fill(Run x) {
        for (int n = 0; n < 13; n++) {
            x.addNode(n % 4, n);
        }
        for (int e = 0; e < 21; e++) {
            x.addEdge(e % 12, e % 12, e);
        }
    }

    private static void askTheNodes(Run x) {
        x.begin(0);
        for (int label = 0; label < 4; label++) {
            x.spot(0, 1 << label, MIN, MAX);
            for (int k = 0; k < 12; k++) {
                x.part(k, 0);
            }
        }
        for (int value = -10; value <= 12; value++) {
            x.spot(0, 15, value, value);
            x.part(0, 0);
            x.count();
        }
    }

    /** Lets both patterns find much among three nodes, and then moves one of these through all labels and values. */
    private static void askThePatterns(Run x) {
        joinThreeNodes(x);
        askMatches(x);
        for (int value = -10; value <= 12; value++) {
            x.setNode(0, 1, value);
            x.count();
            x.kept();
        }
        for (int label = 0; label < 4; label++) {
            x.setNode(0, label, 0);
            x.count();
            x.kept();
        }
        x.setNode(0, 1, 0);
        // With ever fewer edges the ways become rare, too.
        for (int e = 0; e < 16; e++) {
            x.removeEdge(e * 7 % 18);
            x.count();
            x.kept();
        }
        chainThreeNodes(x);
        askMatches(x);
        askWithFewerTypes(x);
        askWithAnotherLink(x);
        joinThreeNodes(x);
        x.keep();
        askWithAnotherLink(x);
    }

    /** Leaves the edges from 1 to 2 one type alone, so that ways hang on it. */
    private static void askWithFewerTypes(Run x) {
        for (int only = 0; only < 3; only++) {
            for (int type = 0; type < 3; type++) {
                if (type != only) {
                    x.removeEdge(5 * type + 4);
                }
            }
            x.count();
            x.kept();
            for (int type = 0; type < 3; type++) {
                if (type != only) {
                    x.edge(1, 2, type, 11 + type).is(5 * type + 4);
                }
            }
        }
    }

    /** Moves link 1, since a way link does not show while the edges of the other links make a way of their own. */
    private static void askWithAnotherLink(Run x) {
        for (int ab = 0; ab < 16; ab++) {
            x.link(1, ab, 7, 0);
            x.count();
        }
    }

    /** Two edges of different types between any two of the nodes 0, 1 and 2. */
    private static void joinThreeNodes(Run x) {
        threeNodes(x);
        for (int pair = 0; pair < 9; pair++) {
            int type = (pair % 3 + 2 * (pair / 3)) % 3;
            x.edge(pair % 3, pair / 3, type, pair);
            x.edge(pair % 3, pair / 3, (type + 1) % 3, 20 - pair);
        }
    }

    /** An edge of each type from 0 to 1, from 1 to 2, and from each of the three to itself: no way goes back. */
    private static void chainThreeNodes(Run x) {
        threeNodes(x);
        for (int type = 0; type < 3; type++) {
            for (int n = 0; n < 3; n++) {
                x.edge(n, n, type, n + type);
            }
            x.edge(0, 1, type, 7 + type);
            x.edge(1, 2, type, 11 + type);
        }
    }

    /** The nodes 0, 1 and 2, without edges; no spot may have another node. */
    private static void threeNodes(Run x) {
        for (int e = 0; e < 20; e++) {
            x.removeEdge(e);
        }
        for (int n = 0; n < 3; n++) {
            x.addNode(1, 0);
        }
        for (int n = 0; n < 12; n++) {
            x.setNode(n, n < 3 ? 1 : 3, n < 3 ? 0 : 99);
        }
    }

    private static void refused(String words, int due, State[] states, Call... calls) {
        Sentences.test("18 " + words, () -> {
            for (State state : states) {
                for (Call call : calls) {
                    refusedIn(state, call, due);
                }
            }
        });
    }

    private static void refusedIn(State state, Call call, int due) {
        for (int q = 0; q < QUESTIONS.size(); q++) {
            Run x = state.build();
            call.on(x).is(due);
            QUESTIONS.get(q).accept(x);
            holdAgainst(state, x, state.laterAnswers.get(q));
        }
    }

    private static void holdAgainst(State state, Run x, List<Integer> due) {
        int first = state.callsBefore + 1;
        for (int later = 0; later < due.size(); later++) {
            int got = x.answers().get(first + later);
            if (got != due.get(later)) {
                Sentences.wrong("in the state of " + state.name + ", after " + x.calls().get(first - 1) + ", "
                    + x.calls().get(first + later) + " answered " + got + ", due is " + due.get(later));
                return;
            }
        }
    }

    private interface CallWith {
        Run.Answer on(Run x, int argument);
    }

    /** The call with each of these arguments. */
    private static Call[] each(int[] arguments, CallWith call) {
        Call[] calls = new Call[arguments.length];
        for (int a = 0; a < arguments.length; a++) {
            int argument = arguments[a];
            calls[a] = x -> call.on(x, argument);
        }
        return calls;
    }

    private static Call[] outside(int least, int greatest, CallWith call) {
        return each(Run.outside(least, greatest), call);
    }

    private static State[] in(State... states) {
        return states;
    }

    private static void nodesRefused() {
        int[] missing = {2, 6, 11};
        refused("addNode: label", BAD, STATES, outside(0, 3, (x, label) -> x.addNode(label, 5)));
        refused("addNode: value", BAD, STATES, outside(-99, 99, (x, value) -> x.addNode(1, value)));
        refused("addNode: FULL", FULL, in(ALL), x -> x.addNode(0, 0), x -> x.addNode(3, 99), x -> x.addNode(1, -99));
        refused("setNode: n", FALSE, STATES, outside(0, 11, (x, n) -> x.setNode(n, 3, 50)));
        refused("setNode: no node n", FALSE, in(NEW, SOME), each(missing, (x, n) -> x.setNode(n, 3, 50)));
        refused("setNode: label", FALSE, STATES, outside(0, 3, (x, label) -> x.setNode(1, label, 50)));
        refused("setNode: value", FALSE, STATES, outside(-99, 99, (x, value) -> x.setNode(1, 3, value)));
        refused("removeNode: n", BAD, STATES, outside(0, 11, (x, n) -> x.removeNode(n)));
        refused("removeNode: no node n", BAD, in(NEW, SOME), each(missing, (x, n) -> x.removeNode(n)));
    }

    private static void edgesRefused() {
        int[] missing = {2, 6, 11};
        refused("addEdge: from", BAD, STATES, outside(0, 11, (x, n) -> x.addEdge(n, 1, 40)));
        refused("addEdge: no node from", BAD, in(NEW, SOME), each(missing, (x, n) -> x.addEdge(n, 1, 40)));
        refused("addEdge: to", BAD, STATES, outside(0, 11, (x, n) -> x.addEdge(1, n, 40)));
        refused("addEdge: no node to", BAD, in(NEW, SOME), each(missing, (x, n) -> x.addEdge(1, n, 40)));
        refused("addEdge: what", BAD, STATES, outside(0, 62, (x, what) -> x.addEdge(1, 0, what)));
        refused("addEdge: FULL", FULL, in(ALL), x -> x.addEdge(0, 0, 0), x -> x.addEdge(11, 0, 62),
            x -> x.addEdge(0, 11, 31));
        refused("removeEdge: e", FALSE, STATES, outside(0, 19, (x, e) -> x.removeEdge(e)));
        refused("removeEdge: no edge e", FALSE, in(NEW, SOME),
            each(new int[] {3, 9, 19}, (x, e) -> x.removeEdge(e)));
        refused("degree: n", BAD, STATES, outside(0, 11, (x, n) -> x.degree(n, 0)));
        refused("degree: no node n", BAD, in(NEW, SOME), each(missing, (x, n) -> x.degree(n, 1)));
        refused("degree: what", BAD, STATES, outside(0, 1, (x, what) -> x.degree(0, what)));
        refused("reach: n", BAD, STATES, outside(0, 11, (x, n) -> x.reach(n, 7, 3)));
        refused("reach: no node n", BAD, in(NEW, SOME), each(missing, (x, n) -> x.reach(n, 7, 3)));
        refused("reach: types", BAD, STATES, outside(0, 7, (x, types) -> x.reach(0, types, 3)));
        refused("reach: k", BAD, STATES, outside(1, 3, (x, k) -> x.reach(0, 7, k)));
    }

    private static void patternsRefused() {
        refused("begin: mode", FALSE, STATES, outside(0, 3, (x, mode) -> x.begin(mode)));
        refused("spot: i", FALSE, STATES, outside(0, 3, (x, i) -> x.spot(i, 5, -3, 3)));
        for (int i = 0; i < 4; i++) {
            int spot = i;
            refused("spot: labels of spot " + i, FALSE, STATES,
                outside(0, 15, (x, labels) -> x.spot(spot, labels, -3, 3)));
        }
        refused("link: j", FALSE, STATES, outside(0, 3, (x, j) -> x.link(j, 1, 2, 0)));
        for (int j = 0; j < 4; j++) {
            int link = j;
            refused("link: ab of link " + j, FALSE, STATES, outside(0, 15, (x, ab) -> x.link(link, ab, 2, 0)));
            refused("link: not both spots of link " + j, FALSE, in(SOME, NO_MATCH),
                each(new int[] {2, 6, 8, 9, 10, 11, 14}, (x, ab) -> x.link(link, ab, 2, 1)));
            refused("link: no spots of link " + j, FALSE, in(NEW),
                each(new int[] {0, 1, 4, 5, 10, 15}, (x, ab) -> x.link(link, ab, 2, 1)));
            refused("link: types of link " + j, FALSE, STATES, outside(0, 7, (x, types) -> x.link(link, 1, types, 1)));
            refused("link: kind of link " + j, FALSE, STATES, outside(0, 1, (x, kind) -> x.link(link, 1, 2, kind)));
        }
    }

    private static void questionsRefused() {
        refused("part: k", BAD, STATES, outside(0, 999, (x, k) -> x.part(k, 0)));
        refused("part: no match k", BAD, STATES, x -> x.part(999, 0), x -> x.part(999, 4));
        refused("part: no match", BAD, in(NO_MATCH), x -> x.part(0, 0), x -> x.part(0, 4), x -> x.part(0, 7));
        refused("part: part", BAD, STATES, outside(0, 7, (x, part) -> x.part(0, part)));
        refused("part: no such spot", BAD, in(NEW, SOME, NO_MATCH), x -> x.part(0, 2));
        refused("part: no such link", BAD, in(NEW, SOME), x -> x.part(0, 5), x -> x.part(0, 7));
        refused("part: not of kind 0", BAD, in(SOME, NO_MATCH), x -> x.part(0, 6));
        refused("weigh: what", BAD, STATES, outside(0, 1, (x, what) -> x.weigh(what)));
        refused("weigh: no match", BAD, in(NO_MATCH), x -> x.weigh(0), x -> x.weigh(1));
    }

    /** A pattern that finds nothing would show little of what it holds. */
    private static void statesAreAsMeant() {
        for (State state : in(SOME, ALL)) {
            Run x = state.build();
            x.count().isAbove(0);
            x.weigh(0).isAbove(0);
        }
        for (State state : in(SOME, ALL, NO_MATCH)) {
            Run x = state.build();
            joinThreeNodes(x);
            x.count().isAbove(3);
            x.kept().isAbove(3);
            chainThreeNodes(x);
            x.count().isAbove(0);
            x.kept().isAbove(0);
        }
        NO_MATCH.build().count().is(0);
        ALL.build().addNode(0, 0).is(FULL);
        ALL.build().addEdge(0, 0, 0).is(FULL);
    }

    public static void main(String[] args) {
        Sentences.test("18 the states to be refused in", RefusalTest::statesAreAsMeant);
        nodesRefused();
        edgesRefused();
        patternsRefused();
        questionsRefused();
        Sentences.end();
    }
}
