import java.util.NoSuchElementException;

/** Counts answers that are not due, and ends a test by them. */
final class Check {
    private int asked = 0;
    private int wrong = 0;

    /** A call that is expected to throw, or to answer. */
    interface Call {
        long answer();
    }

    void due(String call, long got, long want) {
        asked++;
        if (got != want) {
            wrong++;
            System.out.println(call + " answered " + got + ", due is " + want);
        }
    }

    void due(String call, boolean got, boolean want) {
        due(call, got ? 1 : 0, want ? 1 : 0);
    }

    /** The exception must be of this very class, as no other may reach a caller. */
    void dueThrow(String call, Call given, Class<? extends RuntimeException> want) {
        asked++;
        String got;
        try {
            got = "answered " + given.answer();
        } catch (RuntimeException e) {
            if (e.getClass() == want) {
                return;
            }
            got = "threw " + e;
        }
        wrong++;
        System.out.println(call + " " + got + ", due is " + want.getSimpleName());
    }

    void dueNoSuch(String call, Call given) {
        dueThrow(call, given, NoSuchElementException.class);
    }

    /** To be called last: tells what was found, and ends the test. */
    void end() {
        System.out.println(asked + " answers, " + wrong + " wrong");
        if (wrong != 0) {
            System.exit(1);
        }
    }

    /** Types a text, in pieces of at most eight characters. */
    static void type(AccordHouse house, String text) {
        for (int i = 0; i < text.length(); i += 8) {
            String piece = text.substring(i, Math.min(text.length(), i + 8));
            if (!house.type(wordOf(piece), piece.length())) {
                throw new AssertionError("not typed: " + piece);
            }
        }
    }

    static long wordOf(String piece) {
        long word = 0;
        for (int i = 0; i < piece.length(); i++) {
            word = word << 8 | piece.charAt(i);
        }
        return word;
    }

    static int kind(AccordHouse house, String letters) {
        type(house, letters);
        return house.kind();
    }

    static int commit(AccordHouse house, int node, int object, int part, String text) {
        type(house, text);
        return house.commit(node, object, part);
    }

    /** The text of a part, by value(). */
    static String text(AccordHouse house, int node, int object, int part) {
        StringBuilder text = new StringBuilder();
        for (int i = 0; i < house.size(node, object, part); i++) {
            text.append((char) house.value(node, object, part, i));
        }
        return text.toString();
    }

    /** All values of a part, as "1,2,3". */
    static String values(AccordHouse house, int node, int object, int part) {
        StringBuilder text = new StringBuilder();
        for (int i = 0; i < house.size(node, object, part); i++) {
            text.append(i == 0 ? "" : ",").append(house.value(node, object, part, i));
        }
        return text.toString();
    }

    void dueText(String what, String got, String want) {
        asked++;
        if (!got.equals(want)) {
            wrong++;
            System.out.println(what + " is \"" + got + "\", due is \"" + want + "\"");
        }
    }

    /** Sends and delivers frames till the receiver has all that the sender has. */
    static void bring(AccordHouse house, int from, int to) {
        for (int i = 0; i < 200; i++) {
            house.send(from, to, false);
            int last = house.total(2) - 1;
            boolean done = house.frame(last, 3) == 0;
            house.deliver(last);
            if (done) {
                return;
            }
        }
        throw new AssertionError("frames without end");
    }
}
