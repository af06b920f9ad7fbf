/**
 * Long runs of calls, held against a plain model that lists every match by trying everything. The runs come from a
 * fixed sequence of numbers, so that each start of the test makes the same calls.
 */
public final class ModelTest {
    private static final int RUNS = 1500;
    private static final int CALLS = 512;

    private long seed;
    private Run program;
    private Model model;

    /** A number from 0 to below the bound. */
    private int pick(int bound) {
        seed = seed * 6364136223846793005L + 1442695040888963407L;
        return (int) ((seed >>> 33) % bound);
    }

    /** Mostly a number from least to greatest, now and then one beside them or far away. */
    private int about(int least, int greatest) {
        switch (pick(60)) {
            case 0:
                return least - 1;
            case 1:
                return greatest + 1;
            case 2:
                return new int[] {Integer.MIN_VALUE, Integer.MAX_VALUE, 32, 64, -32}[pick(5)];
            default:
                return least + pick(greatest - least + 1);
        }
    }

    /** Mostly a node that is there. */
    private int aNode() {
        int n = about(0, 11);
        for (int tries = 0; tries < 20 && !model.isNode(n); tries++) {
            n = pick(12);
        }
        return n;
    }

    /** Whether the call that was made last is answered as the model answers it. */
    private boolean same(Run.Answer answer) {
        Run.Call call = program.calls().get(program.callsMade() - 1);
        return answer.is(model.answer(call.name(), call.arguments()));
    }

    private boolean callOfNodesAndEdges(int kind, int mostNodes) {
        int a = aNode();
        int b = aNode();
        int label = about(0, 3);
        int value = pick(3) == 0 ? about(-99, 99) : about(-3, 3);
        int what = about(0, 62);
        int e = about(0, 19);
        int k = about(1, 3);
        int types = about(0, 7);
        int zeroOrOne = about(0, 1);
        switch (kind) {
            case 0:
                // A small graph stays small, so that its nodes have many edges.
                boolean enough = Integer.bitCount(model.nodes()) >= mostNodes && pick(10) != 0;
                return enough || same(program.addNode(label, value));
            case 1:
                return same(program.setNode(a, label, value));
            case 2:
                return same(program.removeNode(a));
            case 3:
                return same(program.addEdge(a, b, what));
            case 4:
                return same(program.removeEdge(e));
            case 5:
                return same(program.degree(a, zeroOrOne));
            case 6:
                return same(program.reach(a, types, k));
            default:
                return same(program.nodes());
        }
    }

    private boolean callOfPatterns(int kind) {
        int mode = about(0, 3);
        int i = about(0, 3);
        int labels = pick(2) == 0 ? 15 : about(0, 15);
        int least = pick(2) == 0 ? -99 : about(-3, 3);
        int greatest = pick(2) == 0 ? 99 : about(-3, 3);
        int ab = about(0, 15);
        int types = pick(2) == 0 ? 7 : about(0, 7);
        int linkKind = pick(4) == 0 ? 1 : about(0, 1);
        int number = model.count();
        int k = pick(3) == 0 ? about(0, 999) : about(0, Math.min(number, 999));
        int part = about(0, 7);
        int what = about(0, 1);
        switch (kind) {
            case 0:
                return same(program.begin(mode));
            case 1:
                return same(program.spot(i, labels, least, greatest));
            case 2:
                return same(program.link(i, ab, types, linkKind));
            case 3:
                return same(program.count());
            case 4:
                return same(program.part(k, part));
            case 5:
                return same(program.weigh(what));
            case 6:
                return same(program.keep());
            default:
                return same(program.kept());
        }
    }

    private boolean run(int run) {
        seed = run * 7919L + 17;
        program = new Run();
        model = new Model();
        int mostNodes = 1 + pick(12);
        // How often each call comes: first those of nodes and edges, then those of patterns.
        int[] often = {20, 4, run % 3, 30, 4, 3, 5, 1, 3, 14, 16, 12, 20, 10, 3, 6};
        int all = 0;
        for (int one : often) {
            all += one;
        }
        for (int call = 0; call < CALLS; call++) {
            int at = pick(all);
            int kind = 0;
            while (at >= often[kind]) {
                at -= often[kind];
                kind++;
            }
            if (!(kind < 8 ? callOfNodesAndEdges(kind, mostNodes) : callOfPatterns(kind - 8))) {
                return false;
            }
        }
        return true;
    }

    /** Makes the runs up to the first one with a wrong answer. */
    private void allRuns() {
        boolean right = true;
        for (int run = 0; run < RUNS && right; run++) {
            right = run(run);
        }
    }

    public static void main(String[] args) {
        ModelTest test = new ModelTest();
        Sentences.test("all answers are the model's", test::allRuns);
        Sentences.end();
    }
}
