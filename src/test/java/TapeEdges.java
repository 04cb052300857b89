/** Promises 1 to 5: a new object, type, kind, fault, tick. */
final class TapeEdges {
    private static final String FORTY = "abcdefghijklmnopqrstuvwxyzABCDEFGHIJKLMN";

    static void add(Edges edges) {
        edges.edge(1, "No KINDS, no ROWS, no FRAMES.", TapeEdges::nothingAtFirst);
        edges.edge(2, "The n (1 .. 8) lowest bytes of word, the highest first, go to the tape: true", TapeEdges::lowestBytes);
        edges.edge(2, "false, changing nothing, for another n", TapeEdges::anotherN);
        edges.edge(2, "a byte that is not 32 .. 126", TapeEdges::noCharacter);
        edges.edge(2, "or if it would have more than 40.", TapeEdges::moreThanForty);
        edges.edge(3, "The tape (which is empty then in any case) is a KIND", TapeEdges::tapeIsEmptyThen);
        edges.edge(3, "by its PARTS' letters: its number, 0, 1, ..", TapeEdges::numbers);
        edges.edge(3, "IllegalArgumentException: it is none", TapeEdges::noKind);
        edges.edge(3, "IllegalStateException (asked behind that): there are 8.", TapeEdges::eightKinds);
        edges.edge(4, "the place of the first character that is no letter of a RULE", TapeEdges::firstWrongLetter);
        edges.edge(4, "or the seventh one", TapeEdges::seventh);
        edges.edge(4, "(of an empty tape 0)", TapeEdges::emptyTape);
        edges.edge(4, "NONE if it was one, or there was none.", TapeEdges::noFault);
        edges.edge(5, "The WATCH of a NODE goes on by 1 .. 1000: what it shows.", TapeEdges::watch);
        edges.edge(5, "NONE if there is no such NODE", TapeEdges::watchOfNone);
        edges.edge(5, "or another number.", TapeEdges::watchByOthers);
    }

    private static void nothingAtFirst(Check check) {
        AccordHouse house = new AccordHouse();
        check.due("kinds", house.total(0), 0);
        check.due("rows", house.total(4), 0);
        check.due("frames", house.total(2), 0);
        check.due("no kind to make an object of", house.act(0, 0, 0, 0, 0, 0), -1);
        check.due("no kind to count", house.count(0, 0, 0, 0, 0), -1);
        check.due("no row", house.row(0, 1, 0), -1);
        check.due("nothing to undo", house.act(0, 13, 0, 0, 0, 0), -5);
        check.due("no frame to deliver", house.deliver(0), -1);
        check.due("no frame to lose", house.lose(0), false);
        check.due("no frame to look at", house.frame(0, 0), -1);
    }

    /** A tape is seen by the text that it makes. */
    private static String takeTape(AccordHouse house) {
        house.commit(0, 1, 0);
        return Check.text(house, 0, 1, 0);
    }

    private static void lowestBytes(Check check) {
        AccordHouse house = Check.house("T");
        check.due("eight", house.type(Check.wordOf("abcdefgh"), 8), true);
        check.due("eight characters", house.total(1), 8);
        check.due("one", house.type(Check.wordOf("xy"), 1), true);
        check.due("nine characters", house.total(1), 9);
        check.dueText("the highest first", takeTape(house), "abcdefghy");
        for (int n = 1; n <= 8; n++) {
            check.due("n " + n, house.type(Check.wordOf("12345678"), n), true);
            check.dueText("the lowest " + n, takeTape(house), "12345678".substring(8 - n));
        }
    }

    private static void anotherN(Check check) {
        AccordHouse house = Check.house("T");
        Check.type(house, "ab");
        for (int n : new int[] {0, 9, -1, 16, Integer.MIN_VALUE, Integer.MAX_VALUE}) {
            check.due("n " + n, house.type(Check.wordOf("abcdefgh"), n), false);
            check.due("as many", house.total(1), 2);
        }
        check.dueText("the same tape", takeTape(house), "ab");
    }

    private static void noCharacter(Check check) {
        AccordHouse house = Check.house("T");
        for (int place = 0; place < 8; place++) {
            for (int octet : new int[] {0, 31, 127, 128, 255}) {
                long word = Check.wordOf("abcdefgh") & ~(255L << 8 * place) | (long) octet << 8 * place;
                check.due("byte " + octet + " at " + place, house.type(word, 8), false);
                check.due("nothing is typed", house.total(1), 0);
                check.due("it counts for nothing above n", place == 0 || house.type(word, place), true);
                check.dueText("what is below it", takeTape(house), "abcdefgh".substring(8 - place));
            }
        }
        check.due("32 and 126", house.type(32L << 8 | 126, 2), true);
        check.dueText("both", takeTape(house), " ~");
    }

    private static void moreThanForty(Check check) {
        AccordHouse house = Check.house("T");
        Check.type(house, FORTY.substring(0, 33));
        check.due("eight onto 33", house.type(Check.wordOf("xxxxxxxx"), 8), false);
        check.due("still 33", house.total(1), 33);
        check.due("seven onto 33", house.type(Check.wordOf(FORTY.substring(33)), 7), true);
        check.due("forty", house.total(1), 40);
        check.due("one onto 40", house.type('x', 1), false);
        check.due("eight onto 40", house.type(Check.wordOf("xxxxxxxx"), 8), false);
        check.due("still forty", house.total(1), 40);
        check.dueText("the forty", takeTape(house), FORTY);
        check.due("there is room again", house.type('x', 1), true);
        Check.type(house, FORTY.substring(0, 38));
        check.due("39 and 1", house.type('x', 1), true);
    }

    private static void tapeIsEmptyThen(Check check) {
        AccordHouse house = new AccordHouse();
        for (int i = 0; i < 8; i++) {
            Check.type(house, "L");
            house.kind();
            check.due("behind a kind", house.total(1), 0);
        }
        Check.type(house, "L");
        check.dueThrow("a ninth kind", house::kind, IllegalStateException.class);
        check.due("behind that", house.total(1), 0);
        Check.type(house, "no kind");
        check.dueThrow("no kind", house::kind, IllegalArgumentException.class);
        check.due("behind no kind", house.total(1), 0);
        check.dueThrow("nothing was left", house::kind, IllegalArgumentException.class);
    }

    private static void numbers(Check check) {
        AccordHouse house = new AccordHouse();
        String[] kinds = {"L", "S", "C", "B", "A", "T", "M", "LSCBAT"};
        for (int kind = 0; kind < 8; kind++) {
            check.due("kind", Check.kind(house, kinds[kind]), kind);
            check.due("kinds", house.total(0), kind + 1);
        }
        int[] sizes = {1, 0, 1, 5, 0, 0, 0};
        for (int kind = 0; kind < 7; kind++) {
            int object = house.act(0, 0, 0, 0, kind, 0);
            check.due("its one part", house.size(0, object, 0), sizes[kind]);
            check.due("no second part", house.size(0, object, 1), -1);
        }
        int object = house.act(0, 0, 0, 0, 7, 0);
        check.due("a sixth part", house.size(0, object, 5), 0);
        check.due("no seventh part", house.size(0, object, 6), -1);
    }

    private static void noKind(Check check) {
        String[] tapes = {"", "l", " ", "L ", " L", "LSCBATM", "LLLLLLL", "X", "K", "~", FORTY};
        for (String tape : tapes) {
            AccordHouse house = new AccordHouse();
            Check.type(house, tape);
            check.dueThrow("\"" + tape + "\"", house::kind, IllegalArgumentException.class);
            check.due("no kind came", house.total(0), 0);
            check.due("the next one is the first", Check.kind(house, "L"), 0);
        }
        for (char letter = 32; letter < 127; letter++) {
            AccordHouse house = new AccordHouse();
            house.type(letter, 1);
            if ("LSCBATM".indexOf(letter) < 0) {
                check.dueThrow("letter " + letter, house::kind, IllegalArgumentException.class);
            } else {
                check.due("letter " + letter, house.kind(), 0);
            }
        }
    }

    private static void eightKinds(Check check) {
        AccordHouse house = new AccordHouse();
        for (int kind = 0; kind < 8; kind++) {
            check.due("kind", Check.kind(house, "LT"), kind);
        }
        Check.type(house, "LT");
        check.dueThrow("a ninth one", house::kind, IllegalStateException.class);
        check.due("eight", house.total(0), 8);
        Check.type(house, "LX");
        check.dueThrow("no kind is asked ahead", house::kind, IllegalArgumentException.class);
        check.dueThrow("an empty tape too", house::kind, IllegalArgumentException.class);
        Check.type(house, "LLLLLLL");
        check.dueThrow("seven parts too", house::kind, IllegalArgumentException.class);
        check.due("the eighth one is as it was", house.act(0, 0, 0, 0, 7, 0), 1);
        check.due("there is no ninth one", house.act(0, 0, 0, 0, 8, 0), -1);
    }

    private static void dueFault(Check check, AccordHouse house, String tape, int place) {
        Check.type(house, tape);
        check.dueThrow("\"" + tape + "\"", house::kind, IllegalArgumentException.class);
        check.due("fault of \"" + tape + "\"", house.fault(), place);
    }

    private static void firstWrongLetter(Check check) {
        AccordHouse house = new AccordHouse();
        dueFault(check, house, "x", 0);
        dueFault(check, house, "xy", 0);
        dueFault(check, house, "LSCBAx", 5);
        dueFault(check, house, "LxCxAx", 1);
        dueFault(check, house, "LSCBAxM", 5);
        dueFault(check, house, "LSCBAxMMMx", 5);
        dueFault(check, house, FORTY, 0);
    }

    private static void seventh(Check check) {
        AccordHouse house = new AccordHouse();
        dueFault(check, house, "LSCBATM", 6);
        dueFault(check, house, "LSCBATx", 6);
        dueFault(check, house, "LSCBATMx", 6);
        dueFault(check, house, "LLLLLLLLLLLLLLLLLLLLLLLLLLLLLLLLLLLLLLLL", 6);
    }

    private static void emptyTape(Check check) {
        AccordHouse house = new AccordHouse();
        dueFault(check, house, "Lx", 1);
        dueFault(check, house, "", 0);
    }

    private static void noFault(Check check) {
        AccordHouse house = new AccordHouse();
        check.due("there was none", house.fault(), -1);
        Check.type(house, "x");
        check.due("a tape that nobody asked for", house.fault(), -1);
        dueFault(check, house, "", 0);
        for (int i = 0; i < 8; i++) {
            Check.kind(house, "LSCBAT");
            check.due("it was one", house.fault(), -1);
        }
        dueFault(check, house, "x", 0);
        Check.type(house, "L");
        check.dueThrow("a ninth kind", house::kind, IllegalStateException.class);
        check.due("it was one, too", house.fault(), -1);
    }

    private static void watch(Check check) {
        AccordHouse house = new AccordHouse();
        check.due("by 1", house.tick(0, 1), 1);
        check.due("by 1000", house.tick(0, 1000), 1001);
        check.due("it shows that", house.node(0, 0), 1001);
        check.due("another one's", house.tick(3, 1000), 1000);
        for (int i = 1; i <= 500; i++) {
            check.due("on and on", house.tick(2, 1000), 1000 * i);
        }
    }

    private static void watchOfNone(Check check) {
        AccordHouse house = new AccordHouse();
        check.dueEach("node", node -> house.tick(node, 1), -1, Edges.NO_NODES);
        check.dueEach("a watch", node -> house.node(node, 0), 0, 0, 1, 2, 3);
    }

    private static void watchByOthers(Check check) {
        AccordHouse house = new AccordHouse();
        house.tick(1, 5);
        check.dueEach("by", by -> house.tick(1, by), -1, 0, -1, 1001, -1000, Integer.MIN_VALUE, Integer.MAX_VALUE);
        check.due("it shows what it did", house.node(1, 0), 5);
    }

    private TapeEdges() {
    }
}
