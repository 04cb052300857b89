import java.util.Set;
import java.util.TreeSet;

/** Takes tests of single sentences of the document, each by its promise and words. */
final class Edges {
    /** The sections above the promises. */
    static final int TERMS = 0;

    static final int[] NO_NODES = {-1, 4, Integer.MIN_VALUE, Integer.MAX_VALUE};

    final Check check = new Check();
    private final Set<Integer> promises = new TreeSet<>();
    private final Set<String> taken = new TreeSet<>();

    interface Test {
        void run(Check check);
    }

    void edge(int promise, String words, Test test) {
        String title = (promise == TERMS ? "terms" : "promise " + promise) + ", \"" + words + "\"";
        check.about(title);
        promises.add(promise);
        check.due("a sentence has one test", taken.add(title), true);
        try {
            test.run(check);
        } catch (RuntimeException | AssertionError e) {
            check.dueText("the end of the test", e.toString(), "reached");
        }
    }

    /** To be called last: each promise names a boundary, so that each has a test. */
    void end() {
        check.about("all promises");
        for (int promise = TERMS; promise <= 35; promise++) {
            check.due("a test of promise " + promise, promises.contains(promise), true);
        }
        System.out.println(taken.size() + " sentences");
        check.end();
    }
}
