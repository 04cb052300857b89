/** Promises 7, 8, 9 and 29: commit, cursor, where, was. */
public final class TextTest {
    private static final Check CHECK = new Check();

    public static void main(String[] args) {
        commits();
        commitSteps();
        commitRefused();
        commitAtTheLimit();
        commitOfMany();
        cursorsSet();
        cursorsRefused();
        cursorsBrought();
        places();
        wasText();
        wasRefused();
        CHECK.end();
    }

    /** Object 1 of kind TLT. */
    private static AccordHouse house() {
        AccordHouse house = new AccordHouse();
        Check.kind(house, "TLT");
        house.act(0, 0, 0, 0, 0, 0);
        return house;
    }

    private static void commits() {
        AccordHouse house = house();
        CHECK.due("an empty tape onto nothing", house.commit(0, 1, 0), 0);
        CHECK.due("five letters", Check.commit(house, 0, 1, 0, "hello"), 5);
        CHECK.due("the tape is empty", house.total(1), 0);
        CHECK.due("the same again", Check.commit(house, 0, 1, 0, "hello"), 0);
        CHECK.due("one less", Check.commit(house, 0, 1, 0, "helo"), 1);
        CHECK.due("other ones", Check.commit(house, 0, 1, 0, "jello"), 3);
        CHECK.dueText("text", Check.text(house, 0, 1, 0), "jello");
        CHECK.dueText("the other text", Check.text(house, 0, 1, 2), "");
        CHECK.due("all is erased", house.commit(0, 1, 0), 5);
        CHECK.dueText("empty", Check.text(house, 0, 1, 0), "");
        CHECK.due("blanks and signs", Check.commit(house, 0, 1, 2, " ~"), 2);
        CHECK.dueText("the other text", Check.text(house, 0, 1, 2), " ~");
        CHECK.due("rows", house.total(4), 17);
    }

    /** Which rows a commit makes, in which order, and behind what. */
    private static void commitSteps() {
        AccordHouse house = house();
        Check.commit(house, 0, 1, 0, "abc");
        CHECK.due("first behind nothing", house.row(0, 2, 4), 0);
        CHECK.due("second behind the first", house.row(0, 3, 4), 2);
        CHECK.due("third behind the second", house.row(0, 4, 4), 3);
        CHECK.due("abc to xbyd", Check.commit(house, 0, 1, 0, "xbyd"), 5);
        int[][] due = {{10, 0, 2}, {9, 'x', 0}, {10, 0, 4}, {9, 'y', 3}, {9, 'd', 8}};
        for (int i = 0; i < due.length; i++) {
            CHECK.due("sort of step " + i, house.row(0, 5 + i, 0), due[i][0]);
            CHECK.due("v of step " + i, house.row(0, 5 + i, 3), due[i][1]);
            CHECK.due("w of step " + i, house.row(0, 5 + i, 4), due[i][2]);
        }
        CHECK.dueText("text", Check.text(house, 0, 1, 0), "xbyd");
        CHECK.due("by the kept one", house.by(0, 1, 0, 1), 3);
        AccordHouse other = house();
        Check.commit(other, 0, 1, 0, "ab");
        CHECK.due("ab to ba", Check.commit(other, 0, 1, 0, "ba"), 2);
        CHECK.due("a is erased first", other.row(0, 4, 0), 10);
        CHECK.due("a itself", other.row(0, 4, 4), 2);
        CHECK.due("then a new a", other.row(0, 5, 3), 'a');
        CHECK.due("behind b", other.row(0, 5, 4), 3);
        AccordHouse doubled = house();
        Check.commit(doubled, 0, 1, 0, "aa");
        CHECK.due("aa to a", Check.commit(doubled, 0, 1, 0, "a"), 1);
        CHECK.due("the first one is kept", doubled.by(0, 1, 0, 0), 2);
        CHECK.due("a to ba", Check.commit(doubled, 0, 1, 0, "ba"), 1);
        CHECK.due("one is put ahead", doubled.row(0, 5, 4), 0);
    }

    private static void commitRefused() {
        AccordHouse house = house();
        int[][] wrong = {{-1, 1, 0, -1}, {4, 1, 0, -1}, {0, 2, 0, -1}, {0, 0, 0, -1}, {1, 1, 0, -1}, {0, 1, 3, -1},
            {0, 1, -1, -1}, {0, 1, 1, -2}};
        for (int[] given : wrong) {
            CHECK.due("refused", Check.commit(house, given[0], given[1], given[2], "abc"), given[3]);
            CHECK.due("the tape is empty all the same", house.total(1), 0);
        }
        house.act(0, 12, 1, 0, 0, 0);
        CHECK.due("not there", Check.commit(house, 0, 1, 0, "abc"), -3);
        CHECK.due("another rule first", Check.commit(house, 0, 1, 1, "abc"), -2);
        CHECK.due("no row was made", house.total(4), 2);
    }

    private static void commitAtTheLimit() {
        AccordHouse house = house();
        for (int i = 2; i <= 209; i++) {
            house.act(0, 1, 1, 1, i, 0);
        }
        String forty = "0123456789012345678901234567890123456789";
        CHECK.due("up to 249", Check.commit(house, 0, 1, 0, forty), 40);
        CHECK.due("two more are too many", Check.commit(house, 0, 1, 0, forty.substring(2)), -4);
        CHECK.dueText("nothing was done", Check.text(house, 0, 1, 0), forty);
        CHECK.due("the tape is empty", house.total(1), 0);
        CHECK.due("one is not", Check.commit(house, 0, 1, 0, forty.substring(1)), 1);
        CHECK.due("all rows are made", house.node(0, 10), 250);
        CHECK.due("one more is too many", Check.commit(house, 0, 1, 0, forty), -4);
        CHECK.due("none is not", Check.commit(house, 0, 1, 0, forty.substring(1)), 0);
    }

    /** A text of several nodes' rows, far longer than a tape. */
    private static void commitOfMany() {
        AccordHouse house = house();
        for (int node = 0; node < 4; node++) {
            if (node > 0) {
                house.join(node, node - 1);
            }
            for (int i = 0; i < 240; i++) {
                CHECK.due("insert", house.act(node, 9, 1, 0, 'a' + i % 7, i), 1000 * node + i + (node == 0 ? 2 : 1));
            }
        }
        CHECK.due("long", house.size(3, 1, 0), 960);
        CHECK.due("far too many", Check.commit(house, 3, 1, 0, "abcdefg"), -4);
        CHECK.due("still long", house.size(3, 1, 0), 960);
        CHECK.due("as it was", house.was(3, 961, 1, 0, -1), 960);
        CHECK.due("as it was in the middle", house.was(3, 481, 1, 0, -1), 480);
    }

    private static void cursorsSet() {
        AccordHouse house = house();
        CHECK.due("at the beginning", house.cursor(0, 1, 0, 0), true);
        CHECK.due("times", house.where(0, 0, 0), 1);
        CHECK.due("object", house.where(0, 0, 1), 1);
        CHECK.due("part", house.where(0, 0, 2), 0);
        CHECK.due("place", house.where(0, 0, 3), 0);
        Check.commit(house, 0, 1, 2, "abcd");
        CHECK.due("behind b", house.cursor(0, 1, 2, 2), true);
        CHECK.due("times", house.where(0, 0, 0), 2);
        CHECK.due("part", house.where(0, 0, 2), 2);
        CHECK.due("place", house.where(0, 0, 3), 2);
        CHECK.due("at the end", house.cursor(0, 1, 2, 4), true);
        CHECK.due("place", house.where(0, 0, 3), 4);
        CHECK.due("no row is made by it", house.total(4), 5);
        CHECK.due("what 4", house.where(0, 0, 4), -1);
        CHECK.due("what -1", house.where(0, 0, -1), -1);
        CHECK.due("node -1", house.where(-1, 0, 0), -1);
        CHECK.due("node 4", house.where(4, 0, 0), -1);
        CHECK.due("of -1", house.where(0, -1, 0), -1);
        CHECK.due("of 4", house.where(0, 4, 0), -1);
        CHECK.due("never set: times", house.where(0, 1, 0), 0);
        for (int what = 1; what <= 3; what++) {
            CHECK.due("never set", house.where(0, 1, what), -1);
            CHECK.due("not known elsewhere", house.where(1, 0, what), -1);
        }
    }

    private static void cursorsRefused() {
        AccordHouse house = house();
        Check.commit(house, 0, 1, 0, "ab");
        int[][] wrong = {{-1, 1, 0, 0}, {4, 1, 0, 0}, {1, 1, 0, 0}, {0, 0, 0, 0}, {0, 2, 0, 0}, {0, 1, -1, 0},
            {0, 1, 3, 0}, {0, 1, 1, 0}, {0, 1, 0, -1}, {0, 1, 0, 3}, {0, 1, 2, 1}, {0, 1, 0, Integer.MAX_VALUE}};
        for (int[] given : wrong) {
            CHECK.due("cursor", house.cursor(given[0], given[1], given[2], given[3]), false);
        }
        CHECK.due("never set", house.where(0, 0, 0), 0);
        CHECK.due("set", house.cursor(0, 1, 0, 2), true);
        house.act(0, 12, 1, 0, 0, 0);
        CHECK.due("not there", house.cursor(0, 1, 0, 0), false);
        CHECK.due("the old one stays", house.where(0, 0, 3), 2);
    }

    private static void cursorsBrought() {
        AccordHouse house = house();
        Check.commit(house, 0, 1, 0, "abcdefghij");
        house.cursor(0, 1, 0, 9);
        house.send(0, 1, false);
        house.cursor(0, 1, 0, 3);
        house.send(0, 1, false);
        CHECK.due("eight rows", house.deliver(0), 8);
        CHECK.due("times", house.where(1, 0, 0), 1);
        CHECK.due("object", house.where(1, 0, 1), 1);
        CHECK.due("its insert is not applied yet", house.where(1, 0, 3), -1);
        CHECK.due("three rows", house.deliver(0), 3);
        CHECK.due("times", house.where(1, 0, 0), 2);
        CHECK.due("place", house.where(1, 0, 3), 3);
        house.send(1, 2, true);
        CHECK.due("an ask brings it too", house.deliver(0), 0);
        CHECK.due("times", house.where(2, 0, 0), 2);
        CHECK.due("its object is not made there", house.where(2, 0, 3), -1);
        CHECK.due("the object's name is known", house.where(2, 0, 1), 1);
        house.lose(0);
        house.cursor(0, 1, 0, 0);
        house.send(0, 2, true);
        house.cursor(0, 1, 0, 1);
        house.send(0, 2, true);
        house.deliver(1);
        CHECK.due("the later one", house.where(2, 0, 0), 4);
        house.deliver(0);
        CHECK.due("an older one changes nothing", house.where(2, 0, 0), 4);
        house.join(3, 0);
        CHECK.due("joining brings none", house.where(3, 0, 0), 0);
        AccordHouse beginning = house();
        beginning.cursor(0, 1, 0, 0);
        beginning.send(0, 1, true);
        beginning.deliver(0);
        CHECK.due("the beginning needs the make as well", beginning.where(1, 0, 3), -1);
        beginning.join(1, 0);
        CHECK.due("made", beginning.where(1, 0, 3), 0);
    }

    private static void places() {
        AccordHouse house = house();
        Check.commit(house, 0, 1, 0, "abcd");
        house.cursor(0, 1, 0, 2);
        house.act(0, 9, 1, 0, 'x', 0);
        CHECK.due("more ahead of it", house.where(0, 0, 3), 3);
        house.act(0, 9, 1, 0, 'y', 3);
        CHECK.due("more behind it", house.where(0, 0, 3), 3);
        house.act(0, 10, 1, 0, 0, 2);
        CHECK.dueText("text", Check.text(house, 0, 1, 0), "xaycd");
        CHECK.due("its character is erased", house.where(0, 0, 3), 2);
        house.act(0, 12, 1, 0, 0, 0);
        CHECK.due("also if it is not there", house.where(0, 0, 3), 2);
    }

    private static void wasText() {
        AccordHouse house = house();
        Check.commit(house, 0, 1, 0, "abc");
        house.act(0, 10, 1, 0, 0, 1);
        house.act(0, 13, 0, 0, 0, 0);
        String[] due = {"", "", "a", "ab", "abc", "ac", "abc"};
        for (int k = 0; k <= 6; k++) {
            CHECK.due("how many at " + k, house.was(0, k, 1, 0, -1), due[k].length());
            for (int i = 0; i < due[k].length(); i++) {
                CHECK.due("character", house.was(0, k, 1, 0, i), due[k].charAt(i));
            }
            CHECK.due("behind the last", house.was(0, k, 1, 0, due[k].length()), -1);
        }
        CHECK.dueText("now is untouched", Check.text(house, 0, 1, 0), "abc");
    }

    private static void wasRefused() {
        AccordHouse house = house();
        Check.commit(house, 0, 1, 0, "a");
        CHECK.due("k -1", house.was(0, -1, 1, 0, -1), -1);
        CHECK.due("k too far", house.was(0, 3, 1, 0, -1), -1);
        CHECK.due("node -1", house.was(-1, 0, 1, 0, -1), -1);
        CHECK.due("node 4", house.was(4, 0, 1, 0, -1), -1);
        CHECK.due("not made there", house.was(1, 0, 1, 0, -1), -1);
        CHECK.due("no object", house.was(0, 0, 2, 0, -1), -1);
        CHECK.due("no part", house.was(0, 0, 1, 3, -1), -1);
        CHECK.due("another rule", house.was(0, 0, 1, 1, -1), -1);
        CHECK.due("character -2", house.was(0, 2, 1, 0, -2), -1);
        CHECK.due("the least", house.was(0, 2, 1, 0, Integer.MIN_VALUE), -1);
    }
}
