import java.util.NoSuchElementException;
import java.util.function.IntUnaryOperator;

/** Counts answers that are not due, and ends a test by them. */
final class Check {
    private int asked = 0;
    private int wrong = 0;
    private String about = "";

    /** A call that is expected to throw, or to answer. */
    interface Call {
        long answer();
    }

    /** What is asked from now on is told with these words, if it is wrong. */
    void about(String words) {
        about = words + ": ";
    }

    private void tell(String fault) {
        wrong++;
        System.out.println(about + fault);
    }

    void due(String call, long got, long want) {
        asked++;
        if (got != want) {
            tell(call + " answered " + got + ", due is " + want);
        }
    }

    void due(String call, boolean got, boolean want) {
        due(call, got ? 1 : 0, want ? 1 : 0);
    }

    /** The exception must be of this very class, as no other may reach a caller. */
    void dueThrow(String call, Call given, Class<? extends RuntimeException> want) {
        asked++;
        String got;
        try {
            got = "answered " + given.answer();
        } catch (RuntimeException e) {
            if (e.getClass() == want) {
                return;
            }
            got = "threw " + e;
        }
        tell(call + " " + got + ", due is " + want.getSimpleName());
    }

    void dueNoSuch(String call, Call given) {
        dueThrow(call, given, NoSuchElementException.class);
    }

    /** All of these whats, from 0 on. */
    void dueAll(String call, IntUnaryOperator given, int... want) {
        for (int what = 0; what < want.length; what++) {
            due(call + " " + what, given.applyAsInt(what), want[what]);
        }
    }

    /** The same answer for each of these. */
    void dueEach(String call, IntUnaryOperator given, int want, int... each) {
        for (int one : each) {
            due(call + " " + one, given.applyAsInt(one), want);
        }
    }

    /** To be called last: tells what was found, and ends the test. */
    void end() {
        System.out.println(asked + " answers, " + wrong + " wrong");
        if (wrong != 0) {
            System.exit(1);
        }
    }

    /** A new object with these kinds; node 0 has made an object of each: 1, 2, .. */
    static AccordHouse house(String... kinds) {
        AccordHouse house = new AccordHouse();
        for (int i = 0; i < kinds.length; i++) {
            kind(house, kinds[i]);
            house.act(0, 0, 0, 0, i, 0);
        }
        return house;
    }

    /** The same, and all other nodes have these objects too. */
    static AccordHouse everywhere(String... kinds) {
        AccordHouse house = house(kinds);
        for (int node = 1; node < 4; node++) {
            house.join(node, 0);
        }
        return house;
    }

    /** Object 1 of kind LT, with as many sets of its first part as told: 1, 2, .. */
    static AccordHouse houseOfSets(int sets) {
        AccordHouse house = house("LT");
        for (int i = 1; i <= sets; i++) {
            house.act(0, 1, 1, 0, i, 0);
        }
        return house;
    }

    /** Types a text, in pieces of at most eight characters. */
    static void type(AccordHouse house, String text) {
        for (int i = 0; i < text.length(); i += 8) {
            String piece = text.substring(i, Math.min(text.length(), i + 8));
            if (!house.type(wordOf(piece), piece.length())) {
                throw new AssertionError("not typed: " + piece);
            }
        }
    }

    static long wordOf(String piece) {
        long word = 0;
        for (int i = 0; i < piece.length(); i++) {
            word = word << 8 | piece.charAt(i);
        }
        return word;
    }

    static int kind(AccordHouse house, String letters) {
        type(house, letters);
        return house.kind();
    }

    static int commit(AccordHouse house, int node, int object, int part, String text) {
        type(house, text);
        return house.commit(node, object, part);
    }

    /** The text of a part, by value(). */
    static String text(AccordHouse house, int node, int object, int part) {
        StringBuilder text = new StringBuilder();
        for (int i = 0; i < house.size(node, object, part); i++) {
            text.append((char) house.value(node, object, part, i));
        }
        return text.toString();
    }

    /** All values of a part, as "1,2,3". */
    static String values(AccordHouse house, int node, int object, int part) {
        StringBuilder text = new StringBuilder();
        for (int i = 0; i < house.size(node, object, part); i++) {
            text.append(i == 0 ? "" : ",").append(house.value(node, object, part, i));
        }
        return text.toString();
    }

    void dueText(String what, String got, String want) {
        asked++;
        if (!got.equals(want)) {
            tell(what + " is \"" + got + "\", due is \"" + want + "\"");
        }
    }

    /** Each of two gets all that the other one has. */
    static void meet(AccordHouse house, int one, int other) {
        bring(house, one, other);
        bring(house, other, one);
    }

    /** Sends and delivers frames till the receiver has all that the sender has. */
    static void bring(AccordHouse house, int from, int to) {
        for (int i = 0; i < 200; i++) {
            house.send(from, to, false);
            int last = house.total(2) - 1;
            boolean done = house.frame(last, 3) == 0;
            house.deliver(last);
            if (done) {
                return;
            }
        }
        throw new AssertionError("frames without end");
    }
}
