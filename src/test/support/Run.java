import java.util.ArrayList;
import java.util.Arrays;
import java.util.List;
import java.util.stream.Collectors;

/** Calls on one new object, each noted, so that a wrong answer is told with the calls before it. */
final class Run {
    static final int MIN = Integer.MIN_VALUE;
    static final int MAX = Integer.MAX_VALUE;
    private static final int MOST_CALLS = 512;

    private final GraphPatterns object = new GraphPatterns();
    private final List<Call> calls = new ArrayList<>();
    private final List<Integer> answers = new ArrayList<>();
    private int callsTold = 0;

    record Call(String name, int... arguments) {
        @Override
        public String toString() {
            String text = Arrays.toString(arguments);
            return name + "(" + text.substring(1, text.length() - 1) + ")";
        }
    }

    /** What the last call answered; a boolean counts 1 or 0. */
    final class Answer {
        private final int got;

        Answer(int got) {
            this.got = got;
        }

        boolean is(int due) {
            if (got != due) {
                Sentences.wrong(told() + " answered " + got + ", due is " + due);
            }
            return got == due;
        }

        void isAbove(int bound) {
            if (got <= bound) {
                Sentences.wrong(told() + " answered " + got + ", due is more than " + bound);
            }
        }

        void isBad() {
            is(-1);
        }

        void isFull() {
            is(-2);
        }

        void isTrue() {
            is(1);
        }

        void isFalse() {
            is(0);
        }
    }

    static Run withNodes(int number) {
        Run run = new Run();
        for (int n = 0; n < number; n++) {
            run.addNode(0, 0).is(n);
        }
        return run;
    }

    /** Numbers beside least .. greatest and far away, among them those that a shift or a cast would bring back. */
    static int[] outside(int least, int greatest) {
        List<Integer> all = new ArrayList<>(List.of(least - 1, greatest + 1, MIN, MAX, MIN + 1, MAX - 1));
        for (int round : new int[] {16, 32, 64, 256, 1024, 65536, 1 << 24}) {
            all.add(least + round);
            all.add(greatest - round);
        }
        all.removeIf(number -> least <= number && number <= greatest);
        return all.stream().mapToInt(Integer::intValue).toArray();
    }

    int callsMade() {
        return calls.size();
    }

    List<Integer> answers() {
        return answers;
    }

    List<Call> calls() {
        return calls;
    }

    private void call(String name, int... arguments) {
        if (calls.size() == MOST_CALLS) {
            throw new IllegalStateException("a test that makes more than " + MOST_CALLS + " calls on one object");
        }
        calls.add(new Call(name, arguments));
    }

    private Answer answer(int got) {
        answers.add(got);
        return new Answer(got);
    }

    private Answer answer(boolean got) {
        return answer(got ? 1 : 0);
    }

    /** The calls up to the last one that have not been told yet. */
    private String told() {
        List<Call> news = calls.subList(callsTold, calls.size());
        String before = callsTold == 0 ? "" : ".. ";
        callsTold = calls.size();
        return before + news.stream().map(Call::toString).collect(Collectors.joining("; "));
    }

    Answer addNode(int label, int value) {
        call("addNode", label, value);
        return answer(object.addNode(label, value));
    }

    Answer setNode(int n, int label, int value) {
        call("setNode", n, label, value);
        return answer(object.setNode(n, label, value));
    }

    Answer removeNode(int n) {
        call("removeNode", n);
        return answer(object.removeNode(n));
    }

    Answer addEdge(int from, int to, int what) {
        call("addEdge", from, to, what);
        return answer(object.addEdge(from, to, what));
    }

    Answer removeEdge(int e) {
        call("removeEdge", e);
        return answer(object.removeEdge(e));
    }

    Answer degree(int n, int what) {
        call("degree", n, what);
        return answer(object.degree(n, what));
    }

    Answer reach(int n, int types, int k) {
        call("reach", n, types, k);
        return answer(object.reach(n, types, k));
    }

    Answer nodes() {
        call("nodes");
        return answer(object.nodes());
    }

    Answer begin(int mode) {
        call("begin", mode);
        return answer(object.begin(mode));
    }

    Answer spot(int i, int labels, int least, int greatest) {
        call("spot", i, labels, least, greatest);
        return answer(object.spot(i, labels, least, greatest));
    }

    Answer link(int j, int ab, int types, int kind) {
        call("link", j, ab, types, kind);
        return answer(object.link(j, ab, types, kind));
    }

    Answer count() {
        call("count");
        return answer(object.count());
    }

    Answer part(int k, int part) {
        call("part", k, part);
        return answer(object.part(k, part));
    }

    Answer weigh(int what) {
        call("weigh", what);
        return answer(object.weigh(what));
    }

    Answer keep() {
        call("keep");
        return answer(object.keep());
    }

    Answer kept() {
        call("kept");
        return answer(object.kept());
    }

    Answer edge(int from, int to, int type, int weight) {
        return addEdge(from, to, type + 3 * weight);
    }

    /** Gives the pattern at hand the spots 0 .. number - 1, each for any node. */
    void anySpots(int number) {
        for (int i = 0; i < number; i++) {
            anySpot(i);
        }
    }

    void anySpot(int i) {
        spot(i, 15, MIN, MAX).isTrue();
    }

    void edgeLink(int j, int first, int second, int types) {
        link(j, first + 4 * second, types, 0).isTrue();
    }

    void wayLink(int j, int first, int second, int types) {
        link(j, first + 4 * second, types, 1).isTrue();
    }

    void weighs(int least, int greatest) {
        weigh(0).is(least);
        weigh(1).is(greatest);
    }

    /** Holds the whole list of matches to these: the nodes of the spots and the edges of the links, a dash for BAD. */
    void matchesAre(String... matches) {
        count().is(matches.length);
        for (int k = 0; k < matches.length; k++) {
            String[] parts = matches[k].replace("| ", "").split(" ");
            for (int part = 0; part < 8; part++) {
                part(k, part).is(parts[part].equals("-") ? -1 : Integer.parseInt(parts[part]));
            }
        }
        for (int part = 0; part < 8; part++) {
            part(matches.length, part).isBad();
        }
    }
}
