/** Promises 7, 8, 9 and 29: commit, cursor, where, was; COMMITTED and CURSOR. */
final class TextEdges {
    private static final String FORTY = "abcdefghijklmnopqrstuvwxyzABCDEFGHIJKLMN";

    static void add(Edges edges) {
        edges.edge(0, "if there are both characters, they are the same, and L(i, j) is 1 + L(i + 1, j + 1): kept",
            TextEdges::kept);
        edges.edge(0, "else, if there is a character of a and L(i, j) is L(i + 1, j): an ERASE of it",
            TextEdges::erased);
        edges.edge(0, "else an INSERT of that of b, behind the latest one that was kept or inserted (0 without)",
            TextEdges::inserted);
        edges.edge(0, "till both are at their ends.", TextEdges::bothEnds);
        edges.edge(7, "The tape's text (which is empty then in any case)", TextEdges::tapeIsEmptyThen);
        edges.edge(7, "how many ROWS are made, one after the other.", TextEdges::rowsMade);
        edges.edge(7, "Refused, with making none, as for act(): -1, -2, -3", TextEdges::commitRefused);
        edges.edge(7, "or -4, if there would be more than 250.", TextEdges::moreRows);
        edges.edge(0, "an INSERT behind which it is (0 the beginning), and how many times it was set",
            TextEdges::timesSet);
        edges.edge(8, "behind the INSERT of the character ahead of that place (0 .. as many as there are): true",
            TextEdges::cursorPlaces);
        edges.edge(8, "false if there is none such.", TextEdges::cursorRefused);
        edges.edge(9, "what 0: how many times it was set, 1: its OBJECT, 2: its PART, 3: its place there",
            TextEdges::whereWhats);
        edges.edge(9, "how many characters stand in the text up to its INSERT, that one too.", TextEdges::upToInsert);
        edges.edge(9, "NONE if there are no such NODES, or for another what", TextEdges::whereOfNone);
        edges.edge(9, "of 1 to 3 if it was never set", TextEdges::neverSet);
        edges.edge(9, "of 3 if the NODE has not APPLIED its OBJECT's MAKE or its INSERT.", TextEdges::notApplied);
        edges.edge(29, "as it was when the first k ROWS that are APPLIED at a NODE were (0 .. all)",
            TextEdges::wasThen);
        edges.edge(29, "i NONE: how many there were.", TextEdges::howMany);
        edges.edge(29, "NONE if there is no such NODE, OBJECT that is MADE there, PART, k, another RULE",
            TextEdges::wasOfNone);
        edges.edge(29, "or no such character.", TextEdges::noCharacter);
    }

    /** Object 1 of kind TLT. */
    private static AccordHouse house(String text) {
        AccordHouse house = Check.house("TLT");
        Check.commit(house, 0, 1, 0, text);
        return house;
    }

    /** The rows from a number on, each as its sort, v and w. */
    private static void dueRows(Check check, AccordHouse house, int first, int[]... due) {
        for (int i = 0; i < due.length; i++) {
            int name = first + i;
            check.due("sort of " + name, house.row(0, name, 0), due[i][0]);
            check.due("v of " + name, house.row(0, name, 3), due[i][1]);
            check.due("w of " + name, house.row(0, name, 4), due[i][2]);
        }
        check.due("no row more", house.row(0, first + due.length, 0), -1);
    }

    private static void kept(Check check) {
        AccordHouse house = house("abcde");
        check.due("all", Check.commit(house, 0, 1, 0, "abcde"), 0);
        check.due("the first of two that are the same", Check.commit(house, 0, 1, 0, "abcdee"), 1);
        dueRows(check, house, 7, new int[] {9, 'e', 6});
        AccordHouse doubled = house("aab");
        check.due("aab to ab", Check.commit(doubled, 0, 1, 0, "ab"), 1);
        dueRows(check, doubled, 5, new int[] {10, 0, 3});
        check.due("the first a is kept", doubled.by(0, 1, 0, 0), 2);
    }

    private static void erased(Check check) {
        AccordHouse house = house("ab");
        check.due("ab to ba: the erase is first", Check.commit(house, 0, 1, 0, "ba"), 2);
        dueRows(check, house, 4, new int[] {10, 0, 2}, new int[] {9, 'a', 3});
        AccordHouse other = house("xay");
        check.due("xay to bac", Check.commit(other, 0, 1, 0, "bac"), 4);
        dueRows(check, other, 5, new int[] {10, 0, 2}, new int[] {9, 'b', 0}, new int[] {10, 0, 4},
            new int[] {9, 'c', 3});
        AccordHouse all = house("abc");
        check.due("nothing in common", Check.commit(all, 0, 1, 0, "x"), 4);
        dueRows(check, all, 5, new int[] {10, 0, 2}, new int[] {10, 0, 3}, new int[] {10, 0, 4}, new int[] {9, 'x', 0});
    }

    private static void inserted(Check check) {
        AccordHouse house = house("ab");
        check.due("at the beginning", Check.commit(house, 0, 1, 0, "xyab"), 2);
        dueRows(check, house, 4, new int[] {9, 'x', 0}, new int[] {9, 'y', 4});
        check.due("between", Check.commit(house, 0, 1, 0, "xyazb"), 1);
        dueRows(check, house, 6, new int[] {9, 'z', 2});
        check.due("at the end", Check.commit(house, 0, 1, 0, "xyazb~"), 1);
        dueRows(check, house, 7, new int[] {9, '~', 3});
        AccordHouse erased = house("abc");
        check.due("behind a, not behind the erased b", Check.commit(erased, 0, 1, 0, "axc"), 2);
        dueRows(check, erased, 5, new int[] {10, 0, 3}, new int[] {9, 'x', 2});
    }

    private static void bothEnds(Check check) {
        AccordHouse house = house("");
        check.due("nothing to nothing", house.commit(0, 1, 0), 0);
        check.due("nothing to forty", Check.commit(house, 0, 1, 0, FORTY), 40);
        check.dueText("forty", Check.text(house, 0, 1, 0), FORTY);
        check.due("forty to nothing", house.commit(0, 1, 0), 40);
        check.dueText("nothing", Check.text(house, 0, 1, 0), "");
        check.due("rows", house.total(4), 81);
        AccordHouse longer = house(FORTY);
        for (int i = 0; i < 60; i++) {
            longer.act(0, 9, 1, 0, 'x', 40 + i);
        }
        check.due("a hundred to forty", Check.commit(longer, 0, 1, 0, FORTY), 60);
        check.dueText("forty", Check.text(longer, 0, 1, 0), FORTY);
    }

    private static void tapeIsEmptyThen(Check check) {
        AccordHouse house = house("ab");
        check.due("behind a commit", house.total(1), 0);
        int[][] refused = {{4, 1, 0, -1}, {0, 9, 0, -1}, {0, 1, 9, -1}, {0, 1, 1, -2}};
        for (int[] given : refused) {
            check.due("refused", Check.commit(house, given[0], given[1], given[2], "xy"), given[3]);
            check.due("behind that", house.total(1), 0);
        }
        house.act(0, 12, 1, 0, 0, 0);
        check.due("refused", Check.commit(house, 0, 1, 0, "xy"), -3);
        check.due("behind that", house.total(1), 0);
        house.act(0, 13, 0, 0, 0, 0);
        for (int i = 6; i <= 250; i++) {
            house.act(0, 1, 1, 1, i, 0);
        }
        check.due("refused", Check.commit(house, 0, 1, 0, "xy"), -4);
        check.due("behind that", house.total(1), 0);
    }

    private static void rowsMade(Check check) {
        AccordHouse house = house("");
        check.due("none", house.commit(0, 1, 0), 0);
        check.due("one", Check.commit(house, 0, 1, 0, "a"), 1);
        check.due("rows", house.node(0, 1), 2);
        check.due("three", Check.commit(house, 0, 1, 0, "abcd"), 3);
        check.due("rows", house.node(0, 1), 5);
        check.due("five to the other text", Check.commit(house, 0, 1, 2, "abcde"), 5);
        for (int name = 2; name <= 10; name++) {
            check.due("one behind the other", house.row(0, name, 6), name);
            check.due("it knew the one ahead", house.row(0, name, 10), name - 1);
        }
        check.due("news of each one", house.node(0, 3), 10);
    }

    private static void commitRefused(Check check) {
        AccordHouse house = house("ab");
        house.act(0, 0, 0, 0, 0, 0);
        house.act(0, 12, 4, 0, 0, 0);
        for (int node : Edges.NO_NODES) {
            check.due("node", Check.commit(house, node, 1, 0, "x"), -1);
        }
        for (int object : new int[] {0, 2, 5, -1, 1001, Integer.MIN_VALUE, Integer.MAX_VALUE}) {
            check.due("object", Check.commit(house, 0, object, 0, "x"), -1);
        }
        check.due("not made there", Check.commit(house, 1, 1, 0, "x"), -1);
        for (int part : new int[] {-1, 3, 6, Integer.MIN_VALUE, Integer.MAX_VALUE}) {
            check.due("part", Check.commit(house, 0, 1, part, "x"), -1);
        }
        check.due("another rule", Check.commit(house, 0, 1, 1, "x"), -2);
        check.due("another rule ahead of not there", Check.commit(house, 0, 4, 1, "x"), -2);
        check.due("not there", Check.commit(house, 0, 4, 0, "x"), -3);
        check.due("nothing to do, but not there", house.commit(0, 4, 0), -3);
        check.due("none was made", house.total(4), 5);
        check.dueText("the text", Check.text(house, 0, 1, 0), "ab");
    }

    private static void moreRows(Check check) {
        AccordHouse house = house("");
        for (int i = 2; i <= 210; i++) {
            house.act(0, 1, 1, 1, i, 0);
        }
        check.due("39 up to 249", Check.commit(house, 0, 1, 0, FORTY.substring(1)), 39);
        check.due("two more would be 251", Check.commit(house, 0, 1, 0, FORTY.substring(3)), -4);
        check.due("one erased and one inserted too", Check.commit(house, 0, 1, 0, FORTY.substring(2) + "x"), -4);
        check.dueText("none was made", Check.text(house, 0, 1, 0), FORTY.substring(1));
        check.due("249", house.total(4), 249);
        check.due("one more is the 250th", Check.commit(house, 0, 1, 0, FORTY), 1);
        check.due("one more is too many", Check.commit(house, 0, 1, 0, FORTY.substring(1)), -4);
        check.due("none more is not", Check.commit(house, 0, 1, 0, FORTY), 0);
        check.due("250", house.total(4), 250);
    }

    private static void timesSet(Check check) {
        AccordHouse house = house("ab");
        check.due("never", house.where(0, 0, 0), 0);
        for (int i = 1; i <= 300; i++) {
            house.cursor(0, 1, 0, i % 3);
            check.due("times", house.where(0, 0, 0), i);
        }
        house.cursor(0, 1, 0, 3);
        check.due("a refused one does not count", house.where(0, 0, 0), 300);
        house.send(0, 1, true);
        check.due("the beginning is 0", house.octet(0, 5 + 4), 0);
        house.deliver(0);
        check.due("as it came", house.where(1, 0, 0), 300);
    }

    private static void cursorPlaces(Check check) {
        AccordHouse house = house("");
        check.due("an empty text's only place", house.cursor(0, 1, 0, 0), true);
        check.due("its place", house.where(0, 0, 3), 0);
        Check.commit(house, 0, 1, 0, "abc");
        for (int place = 0; place <= 3; place++) {
            check.due("place " + place, house.cursor(0, 1, 0, place), true);
            check.due("its place", house.where(0, 0, 3), place);
        }
        house.cursor(0, 1, 0, 0);
        house.act(0, 9, 1, 0, 'x', 0);
        check.due("the beginning stays ahead", house.where(0, 0, 3), 0);
        house.cursor(0, 1, 0, 1);
        house.act(0, 9, 1, 0, 'y', 1);
        check.due("it stays behind x", house.where(0, 0, 3), 1);
        house.act(0, 9, 1, 0, 'z', 0);
        check.due("and goes on with it", house.where(0, 0, 3), 2);
    }

    private static void cursorRefused(Check check) {
        AccordHouse house = house("ab");
        check.due("set", house.cursor(0, 1, 0, 1), true);
        for (int node : Edges.NO_NODES) {
            check.due("node", house.cursor(node, 1, 0, 0), false);
        }
        for (int object : new int[] {0, 2, 9, -1, 1001, Integer.MAX_VALUE, Integer.MIN_VALUE}) {
            check.due("object", house.cursor(0, object, 0, 0), false);
        }
        check.due("not made there", house.cursor(1, 1, 0, 0), false);
        for (int part : new int[] {-1, 1, 3, 6, Integer.MAX_VALUE, Integer.MIN_VALUE}) {
            check.due("part", house.cursor(0, 1, part, 0), false);
        }
        for (int place : new int[] {-1, 3, Integer.MAX_VALUE, Integer.MIN_VALUE}) {
            check.due("place", house.cursor(0, 1, 0, place), false);
        }
        check.due("place 1 of an empty text", house.cursor(0, 1, 2, 1), false);
        house.act(0, 12, 1, 0, 0, 0);
        check.due("not there", house.cursor(0, 1, 0, 0), false);
        check.dueAll("it stays as it was", what -> house.where(0, 0, what), 1, 1, 0, 1);
    }

    private static void whereWhats(Check check) {
        AccordHouse house = house("ab");
        Check.commit(house, 0, 1, 2, "xyz");
        house.cursor(0, 1, 0, 1);
        house.cursor(0, 1, 2, 3);
        check.dueAll("where", what -> house.where(0, 0, what), 2, 1, 2, 3);
        house.join(3, 0);
        house.cursor(3, 1, 2, 2);
        house.send(3, 0, false);
        house.deliver(0);
        check.dueAll("of another node", what -> house.where(0, 3, what), 1, 1, 2, 2);
        check.dueAll("the own one", what -> house.where(0, 0, what), 2, 1, 2, 3);
    }

    private static void upToInsert(Check check) {
        AccordHouse house = house("abcd");
        house.cursor(0, 1, 0, 1);
        check.due("that one too", house.where(0, 0, 3), 1);
        house.cursor(0, 1, 0, 4);
        check.due("the last one", house.where(0, 0, 3), 4);
        house.act(0, 10, 1, 0, 0, 3);
        check.due("it does not stand any more", house.where(0, 0, 3), 3);
        house.act(0, 10, 1, 0, 0, 0);
        check.due("nor does another one", house.where(0, 0, 3), 2);
        house.commit(0, 1, 0);
        check.due("none stands", house.where(0, 0, 3), 0);
        for (int i = 0; i < 4; i++) {
            house.act(0, 13, 0, 0, 0, 0);
        }
        check.due("all stand again", house.where(0, 0, 3), 4);
        for (int i = 0; i < 4; i++) {
            house.act(0, 13, 0, 0, 0, 0);
        }
        check.due("its insert is undone, but applied", house.where(0, 0, 3), 0);
    }

    private static void whereOfNone(Check check) {
        AccordHouse house = house("ab");
        house.cursor(0, 1, 0, 1);
        for (int what = 0; what <= 3; what++) {
            int w = what;
            check.dueEach("node", node -> house.where(node, 0, w), -1, Edges.NO_NODES);
            check.dueEach("of node", node -> house.where(0, node, w), -1, Edges.NO_NODES);
        }
        check.dueEach("what", what -> house.where(0, 0, what), -1, -1, 4, 5, Integer.MIN_VALUE, Integer.MAX_VALUE);
    }

    private static void neverSet(Check check) {
        AccordHouse house = house("ab");
        for (int node = 0; node < 4; node++) {
            for (int m = 0; m < 4; m++) {
                int of = m;
                int at = node;
                check.dueAll("never set", what -> house.where(at, of, what), 0, -1, -1, -1);
            }
        }
        house.cursor(0, 1, 0, 0);
        check.dueAll("set, but not known there", what -> house.where(1, 0, what), 0, -1, -1, -1);
        check.dueAll("another one's", what -> house.where(0, 1, what), 0, -1, -1, -1);
    }

    private static void notApplied(Check check) {
        AccordHouse house = house("abcdefgh");
        house.cursor(0, 1, 0, 0);
        house.send(0, 1, true);
        house.deliver(0);
        house.lose(0);
        check.dueAll("no make, at the beginning", what -> house.where(1, 0, what), 1, 1, 0, -1);
        house.cursor(0, 1, 0, 8);
        house.send(0, 1, false);
        check.due("the make and seven letters", house.deliver(0), 8);
        check.dueAll("no insert", what -> house.where(1, 0, what), 2, 1, 0, -1);
        house.send(0, 1, false);
        check.due("the last letter", house.deliver(0), 1);
        check.dueAll("both", what -> house.where(1, 0, what), 2, 1, 0, 8);
    }

    private static void wasThen(Check check) {
        AccordHouse house = house("abc");
        house.act(0, 10, 1, 0, 0, 0);
        house.act(0, 13, 0, 0, 0, 0);
        house.act(0, 14, 0, 0, 0, 0);
        String[] due = {"", "", "a", "ab", "abc", "bc", "abc", "bc"};
        for (int k = 0; k < due.length; k++) {
            StringBuilder was = new StringBuilder();
            for (int i = 0; i < house.was(0, k, 1, 0, -1); i++) {
                was.append((char) house.was(0, k, 1, 0, i));
            }
            check.dueText("at " + k, was.toString(), due[k]);
        }
        check.due("one more than all", house.was(0, due.length, 1, 0, -1), -1);
    }

    private static void howMany(Check check) {
        AccordHouse house = house("ab");
        check.due("ahead of all", house.was(0, 0, 1, 0, -1), 0);
        check.due("behind all", house.was(0, 3, 1, 0, -1), 2);
        check.due("of the other text", house.was(0, 3, 1, 2, -1), 0);
        check.due("-2 is no NONE", house.was(0, 3, 1, 0, -2), -1);
    }

    private static void wasOfNone(Check check) {
        AccordHouse house = house("ab");
        check.dueEach("node", node -> house.was(node, 0, 1, 0, -1), -1, Edges.NO_NODES);
        check.dueEach("object", object -> house.was(0, 3, object, 0, -1), -1, 0, 2, 4, -1, 1001, Integer.MIN_VALUE,
            Integer.MAX_VALUE);
        check.due("not made there", house.was(1, 0, 1, 0, -1), -1);
        check.dueEach("part", part -> house.was(0, 3, 1, part, -1), -1, -1, 3, 6, Integer.MIN_VALUE,
            Integer.MAX_VALUE);
        check.dueEach("k", k -> house.was(0, k, 1, 0, -1), -1, -1, 4, Integer.MIN_VALUE, Integer.MAX_VALUE);
        check.due("another rule", house.was(0, 3, 1, 1, -1), -1);
        AccordHouse all = Check.house("LSCBAT", "M");
        check.dueEach("rule of part", part -> all.was(0, 2, 1, part, -1), -1, 0, 1, 2, 3, 4);
        check.due("a map", all.was(0, 2, 2, 0, -1), -1);
        check.due("a text", all.was(0, 2, 1, 5, -1), 0);
        check.due("made, but not yet made then", all.was(0, 0, 1, 5, -1), 0);
    }

    private static void noCharacter(Check check) {
        AccordHouse house = house("ab");
        check.due("the last one", house.was(0, 3, 1, 0, 1), 'b');
        check.dueEach("character", i -> house.was(0, 3, 1, 0, i), -1, 2, 3, -2, Integer.MIN_VALUE, Integer.MAX_VALUE);
        check.due("not there then", house.was(0, 2, 1, 0, 1), -1);
        check.due("the first one then", house.was(0, 2, 1, 0, 0), 'a');
        check.due("none then", house.was(0, 1, 1, 0, 0), -1);
        check.due("not made then", house.was(0, 0, 1, 0, 0), -1);
    }

    private TextEdges() {
    }
}
