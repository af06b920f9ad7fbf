import java.util.List;
import java.util.function.Consumer;

/**
 * Promise 18: a call that is refused changes nothing. Each is made in several states, and every later answer is held
 * against those of an object on which it was not made.
 */
public final class RefusalTest {
    private static final int MIN = Run.MIN;
    private static final int MAX = Run.MAX;
    private static final int BAD = -1;
    private static final int FULL = -2;
    private static final int FALSE = 0;

    private interface Call {
        Run.Answer on(Run x);
    }

    private static final class State {
        final String name;
        final Consumer<Run> calls;
        final List<Integer> laterAnswers;
        final int callsBefore;

        State(String name, Consumer<Run> calls) {
            this.name = name;
            this.calls = calls;
            Run x = build();
            callsBefore = x.callsMade();
            askEverything(x);
            laterAnswers = x.answers().subList(callsBefore, x.callsMade());
        }

        Run build() {
            Run x = new Run();
            calls.accept(x);
            return x;
        }
    }

    private static final State NEW = new State("a new object", x -> { });
    private static final State SOME = new State("some nodes and edges", RefusalTest::someNodesAndEdges);
    private static final State ALL = new State("twelve nodes and twenty edges", RefusalTest::allNodesAndEdges);
    private static final State NO_MATCH = new State("a pattern without matches", RefusalTest::noMatch);
    private static final State[] STATES = {NEW, SOME, ALL, NO_MATCH};

    /** The nodes 2 and 6 .. 11, the edges 3 and 9 .. 19, the spot 2 and the links 1 and 3 are missing. */
    private static void someNodesAndEdges(Run x) {
        for (int n = 0; n < 6; n++) {
            x.addNode(n % 3, 4 * n - 9).is(n);
        }
        for (int e = 0; e < 9; e++) {
            x.edge(e % 2, e % 5 == 2 ? 5 : e % 5, e % 3, e + 1).is(e);
        }
        x.removeEdge(3).isTrue();
        x.removeNode(2).is(0);
        x.begin(2).isTrue();
        x.anySpots(2);
        x.edgeLink(3, 0, 1, 6);
        x.keep();
        x.begin(3).isTrue();
        x.spot(0, 7, -9, 90).isTrue();
        x.spot(1, 15, MIN, MAX).isTrue();
        x.spot(3, 7, -50, 11).isTrue();
        x.edgeLink(0, 0, 1, 7);
        x.wayLink(2, 0, 3, 5);
    }

    private static void allNodesAndEdges(Run x) {
        for (int n = 0; n < 12; n++) {
            x.addNode(n % 4, 6 * n - 30).is(n);
        }
        for (int e = 0; e < 20; e++) {
            x.edge(e % 12, (e + (e < 12 ? 1 : 4)) % 12, e % 3, e).is(e);
        }
        x.begin(1).isTrue();
        x.anySpots(3);
        x.wayLink(1, 0, 2, 3);
        x.keep();
        x.begin(2).isTrue();
        x.anySpots(4);
        x.edgeLink(0, 0, 1, 7);
        x.edgeLink(1, 1, 2, 7);
        x.edgeLink(2, 2, 3, 6);
        x.wayLink(3, 0, 3, 7);
        x.spot(3, 14, -30, 20).isTrue();
    }

    private static void noMatch(Run x) {
        someNodesAndEdges(x);
        x.edgeLink(1, 0, 0, 4);
        x.edgeLink(3, 1, 1, 2);
    }

    /** Asks first, and changes the object then in every way that shows what it holds. */
    private static void askEverything(Run x) {
        askStore(x);
        askPatterns(x);
        changeNodes(x);
        x.keep();
        x.kept();
        changeLinks(x);
        removeEdges(x);
        fill(x);
    }

    private static void askStore(Run x) {
        x.nodes();
        for (int n = 0; n < 12; n++) {
            x.degree(n, 0);
            x.degree(n, 1);
            for (int types = 1; types <= 4; types *= 2) {
                x.reach(n, types, 1);
            }
        }
    }

    private static void askPatterns(Run x) {
        x.count();
        x.kept();
        x.weigh(0);
        x.weigh(1);
        for (int k = 0; k < 3; k++) {
            for (int part = 0; part < 8; part++) {
                x.part(k, part);
            }
        }
    }

    /** Other labels and values let the spots of both patterns be seen. */
    private static void changeNodes(Run x) {
        for (int n = 0; n < 12; n++) {
            x.setNode(n, (n + 1) % 4, 37 * n % 199 - 99);
            x.count();
            x.kept();
        }
        for (int n = 0; n < 12; n++) {
            x.setNode(n, n / 2 % 4, n - 5);
            x.count();
            x.kept();
        }
    }

    private static void changeLinks(Run x) {
        for (int i = 0; i < 4; i++) {
            x.link(i, 5 * i, 7, 1);
            x.count();
        }
    }

    /** The weights grow with the numbers of the edges, so that the least one left tells each of them. */
    private static void removeEdges(Run x) {
        x.begin(0);
        x.anySpots(2);
        x.edgeLink(0, 0, 1, 7);
        for (int e = 0; e < 20; e++) {
            x.weigh(0);
            x.weigh(1);
            x.removeEdge(e);
        }
    }

    private static void fill(Run x) {
        for (int n = 0; n < 13; n++) {
            x.addNode(n % 4, n);
        }
        for (int e = 0; e < 21; e++) {
            x.addEdge(e % 12, e % 12, e);
        }
        x.count();
        x.kept();
    }

    private static void refused(String words, int due, State[] states, Call... calls) {
        Sentences.test("18 " + words, () -> {
            for (State state : states) {
                for (Call call : calls) {
                    refusedIn(state, call, due);
                }
            }
        });
    }

    private static void refusedIn(State state, Call call, int due) {
        Run x = state.build();
        call.on(x).is(due);
        String refused = x.callAt(state.callsBefore);
        askEverything(x);
        List<Integer> answers = x.answers().subList(state.callsBefore + 1, x.callsMade());
        for (int later = 0; later < answers.size(); later++) {
            if (!answers.get(later).equals(state.laterAnswers.get(later))) {
                Sentences.wrong("in the state of " + state.name + ", after " + refused + ", "
                    + x.callAt(state.callsBefore + 1 + later) + " answered " + answers.get(later)
                    + ", due is " + state.laterAnswers.get(later));
                return;
            }
        }
    }

    private interface CallWith {
        Run.Answer on(Run x, int argument);
    }

    /** The call with each of these arguments. */
    private static Call[] each(int[] arguments, CallWith call) {
        Call[] calls = new Call[arguments.length];
        for (int a = 0; a < arguments.length; a++) {
            int argument = arguments[a];
            calls[a] = x -> call.on(x, argument);
        }
        return calls;
    }

    private static Call[] outside(int least, int greatest, CallWith call) {
        return each(Run.outside(least, greatest), call);
    }

    private static State[] in(State... states) {
        return states;
    }

    private static void nodesRefused() {
        int[] missing = {2, 6, 11};
        refused("addNode: label", BAD, STATES, outside(0, 3, (x, label) -> x.addNode(label, 5)));
        refused("addNode: value", BAD, STATES, outside(-99, 99, (x, value) -> x.addNode(1, value)));
        refused("addNode: FULL", FULL, in(ALL), x -> x.addNode(0, 0), x -> x.addNode(3, 99), x -> x.addNode(1, -99));
        refused("setNode: n", FALSE, STATES, outside(0, 11, (x, n) -> x.setNode(n, 3, 50)));
        refused("setNode: no node n", FALSE, in(NEW, SOME), each(missing, (x, n) -> x.setNode(n, 3, 50)));
        refused("setNode: label", FALSE, STATES, outside(0, 3, (x, label) -> x.setNode(1, label, 50)));
        refused("setNode: value", FALSE, STATES, outside(-99, 99, (x, value) -> x.setNode(1, 3, value)));
        refused("removeNode: n", BAD, STATES, outside(0, 11, (x, n) -> x.removeNode(n)));
        refused("removeNode: no node n", BAD, in(NEW, SOME), each(missing, (x, n) -> x.removeNode(n)));
    }

    private static void edgesRefused() {
        int[] missing = {2, 6, 11};
        refused("addEdge: from", BAD, STATES, outside(0, 11, (x, n) -> x.addEdge(n, 1, 40)));
        refused("addEdge: no node from", BAD, in(NEW, SOME), each(missing, (x, n) -> x.addEdge(n, 1, 40)));
        refused("addEdge: to", BAD, STATES, outside(0, 11, (x, n) -> x.addEdge(1, n, 40)));
        refused("addEdge: no node to", BAD, in(NEW, SOME), each(missing, (x, n) -> x.addEdge(1, n, 40)));
        refused("addEdge: what", BAD, STATES, outside(0, 62, (x, what) -> x.addEdge(1, 0, what)));
        refused("addEdge: FULL", FULL, in(ALL), x -> x.addEdge(0, 0, 0), x -> x.addEdge(11, 0, 62),
            x -> x.addEdge(0, 11, 31));
        refused("removeEdge: e", FALSE, STATES, outside(0, 19, (x, e) -> x.removeEdge(e)));
        refused("removeEdge: no edge e", FALSE, in(NEW, SOME),
            each(new int[] {3, 9, 19}, (x, e) -> x.removeEdge(e)));
        refused("degree: n", BAD, STATES, outside(0, 11, (x, n) -> x.degree(n, 0)));
        refused("degree: no node n", BAD, in(NEW, SOME), each(missing, (x, n) -> x.degree(n, 1)));
        refused("degree: what", BAD, STATES, outside(0, 1, (x, what) -> x.degree(0, what)));
        refused("reach: n", BAD, STATES, outside(0, 11, (x, n) -> x.reach(n, 7, 3)));
        refused("reach: no node n", BAD, in(NEW, SOME), each(missing, (x, n) -> x.reach(n, 7, 3)));
        refused("reach: types", BAD, STATES, outside(0, 7, (x, types) -> x.reach(0, types, 3)));
        refused("reach: k", BAD, STATES, outside(1, 3, (x, k) -> x.reach(0, 7, k)));
    }

    private static void patternsRefused() {
        refused("begin: mode", FALSE, STATES, outside(0, 3, (x, mode) -> x.begin(mode)));
        refused("spot: i", FALSE, STATES, outside(0, 3, (x, i) -> x.spot(i, 5, -3, 3)));
        for (int i = 0; i < 4; i++) {
            int spot = i;
            refused("spot: labels of spot " + i, FALSE, STATES,
                outside(0, 15, (x, labels) -> x.spot(spot, labels, -3, 3)));
        }
        refused("link: j", FALSE, STATES, outside(0, 3, (x, j) -> x.link(j, 1, 2, 0)));
        for (int j = 0; j < 4; j++) {
            int link = j;
            refused("link: ab of link " + j, FALSE, STATES, outside(0, 15, (x, ab) -> x.link(link, ab, 2, 0)));
            refused("link: not both spots of link " + j, FALSE, in(SOME, NO_MATCH),
                each(new int[] {2, 6, 8, 9, 10, 11, 14}, (x, ab) -> x.link(link, ab, 2, 1)));
            refused("link: no spots of link " + j, FALSE, in(NEW),
                each(new int[] {0, 1, 4, 5, 10, 15}, (x, ab) -> x.link(link, ab, 2, 1)));
            refused("link: types of link " + j, FALSE, STATES, outside(0, 7, (x, types) -> x.link(link, 1, types, 1)));
            refused("link: kind of link " + j, FALSE, STATES, outside(0, 1, (x, kind) -> x.link(link, 1, 2, kind)));
        }
    }

    private static void questionsRefused() {
        refused("part: k", BAD, STATES, outside(0, 999, (x, k) -> x.part(k, 0)));
        refused("part: no match k", BAD, STATES, x -> x.part(999, 0), x -> x.part(999, 4));
        refused("part: no match", BAD, in(NO_MATCH), x -> x.part(0, 0), x -> x.part(0, 4), x -> x.part(0, 7));
        refused("part: part", BAD, STATES, outside(0, 7, (x, part) -> x.part(0, part)));
        refused("part: no such spot", BAD, in(NEW, SOME, NO_MATCH), x -> x.part(0, 2));
        refused("part: no such link", BAD, in(NEW, SOME), x -> x.part(0, 5), x -> x.part(0, 7));
        refused("part: not of kind 0", BAD, in(SOME, NO_MATCH), x -> x.part(0, 6));
        refused("weigh: what", BAD, STATES, outside(0, 1, (x, what) -> x.weigh(what)));
        refused("weigh: no match", BAD, in(NO_MATCH), x -> x.weigh(0), x -> x.weigh(1));
    }

    /** A state in which a pattern finds nothing would show little of what it holds. */
    private static void statesAreAsMeant() {
        for (State state : in(SOME, ALL)) {
            Run x = state.build();
            x.count().isAbove(3);
            x.kept().isAbove(3);
        }
        NO_MATCH.build().count().is(0);
        ALL.build().addNode(0, 0).is(FULL);
        ALL.build().addEdge(0, 0, 0).is(FULL);
    }

    public static void main(String[] args) {
        Sentences.test("18 the states to be refused in", RefusalTest::statesAreAsMeant);
        nodesRefused();
        edgesRefused();
        patternsRefused();
        questionsRefused();
        Sentences.end();
    }
}
