import java.util.HashSet;
import java.util.Set;

/** The tests of one file, each named by the words of the document that it holds the program to. */
final class Sentences {
    private static final Set<String> seen = new HashSet<>();
    private static String sentence = "";
    private static int wrong = 0;

    private Sentences() { }

    static void test(String words, Runnable body) {
        sentence = words;
        if (!seen.add(words)) {
            wrong("has two tests of the same name");
        }
        try {
            body.run();
        } catch (RuntimeException | StackOverflowError thrown) {
            wrong("the test was broken off by " + thrown + " at " + thrown.getStackTrace()[0]);
        }
    }

    static void wrong(String what) {
        wrong++;
        System.out.println("[" + sentence + "] " + what);
    }

    static void end() {
        System.out.println("of " + seen.size() + " tests: " + wrong + " wrong answers");
        if (wrong != 0) {
            System.exit(1);
        }
    }
}
