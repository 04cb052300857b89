import java.util.function.IntUnaryOperator;

/** Promise 6, and what the document says of ACTS. */
final class ActEdges {
    private static final int L = 0;
    private static final int S = 1;
    private static final int C = 2;
    private static final int B = 3;
    private static final int A = 4;
    private static final int T = 5;
    private static final String RULE_OF_SORT = "0LSCBBBAATT0000MM00";
    private static final int[] WITH_OBJECT = {1, 2, 3, 4, 5, 6, 7, 8, 9, 10, 11, 12, 15, 16, 17, 18};
    private static final int[] WITH_PART = {1, 2, 3, 4, 5, 6, 7, 8, 9, 10, 15, 16};
    private static final int[] WITHOUT_PART = {11, 12, 17, 18};

    static void add(Edges edges) {
        edges.edge(6, "An ACT of the sorts 0 .. 18: the NAME of the ROW that is made", ActEdges::names);
        edges.edge(6, "or -1, -2, -3, -4, -5 if it is refused with 1 .. 5.", ActEdges::eachRefusal);
        edges.edge(0, "Refused, with changing nothing", ActEdges::nothingChanges);
        edges.edge(0, "in this order: 1 .. 2 .. 3 .. 5 .. 4", ActEdges::orderOfRefusals);
        edges.edge(0, "1 no such NODE", ActEdges::noNode);
        edges.edge(0, "1 no such .. sort", ActEdges::noSort);
        edges.edge(0, "1 no such .. KIND (of 0, in v)", ActEdges::noKind);
        edges.edge(0, "1 no such .. OBJECT (1 to 12, 15 to 18) that is MADE there", ActEdges::noObject);
        edges.edge(0, "1 no such .. PART (1 to 10, 15, 16)", ActEdges::noPart);
        edges.edge(0, "2 the PART has another RULE", ActEdges::anotherRule);
        edges.edge(0, "3 the OBJECT is not THERE", ActEdges::notThere);
        edges.edge(0, "or (11) v is neither -1 nor an OBJECT that is THERE", ActEdges::noParent);
        edges.edge(0, "4 the NODE has made 250 ROWS", ActEdges::rowsAreMade);
        edges.edge(0, "or (0) 12 MAKES.", ActEdges::makesAreMade);
        addNumbers(edges);
    }

    private static void addNumbers(Edges edges) {
        edges.edge(0, "4: v is 1 .. 1000.", ActEdges::issue);
        edges.edge(0, "5, 6: v is 1 .. 1000", ActEdges::spendRange);
        edges.edge(0, "and not above the own SHARE", ActEdges::ownShare);
        edges.edge(0, "6: w is another NODE.", ActEdges::lendTo);
        edges.edge(0, "7: v is 0 .. 63.", ActEdges::enter);
        edges.edge(0, "8: v is in the set.", ActEdges::leave);
        edges.edge(0, "9: v is 32 .. 126", ActEdges::character);
        edges.edge(0, "w a place 0 .. as many as there are characters", ActEdges::placeOfInsert);
        edges.edge(0, "the ROW gets the INSERT of the character ahead of that place as its w (0 at place 0).",
            ActEdges::insertAhead);
        edges.edge(0, "10: w is the place of a character (0 the first): the ROW gets its INSERT.", ActEdges::erase);
        edges.edge(0, "15: v is 0 .. 63.", ActEdges::bind);
        edges.edge(0, "16: v is one of the keys.", ActEdges::unbind);
        edges.edge(0, "17: v is 1 .. 100", ActEdges::claim);
        edges.edge(0, "and no other NODE is HOLDER.", ActEdges::claimOfAnother);
        edges.edge(0, "18: the NODE is HOLDER.", ActEdges::release);
        edges.edge(0, "13: v is told as 0 and w sought: of the own GOOD ROWS of the sorts 1, 2, 3, 7 to 12, 15, 16 the one"
            + " with the greatest number", ActEdges::undoSought);
        edges.edge(0, "5 if there is none, or it is STABLE.", ActEdges::undoNone);
        edges.edge(0, "14: of the own ROWS that are UNDONE the one whose latest UNDO has the greatest number",
            ActEdges::redoSought);
        edges.edge(0, "14: .. 5 if there is none.", ActEdges::redoNone);
        edges.edge(0, "(What else is given for an act counts for nothing, and is 0 in the ROW.)", ActEdges::elseGiven);
    }

    /** Kinds LSCBAT and M; object 1 is of the first, object 2 of the second one. */
    private static AccordHouse house() {
        return Check.house("LSCBAT", "M");
    }

    private static int objectFor(int sort) {
        return RULE_OF_SORT.charAt(sort) == 'M' ? 2 : 1;
    }

    private static int partFor(int sort) {
        return Math.max(0, "LSCBAT".indexOf(RULE_OF_SORT.charAt(sort)));
    }

    /** One act of each sort, in an order in which none is refused. */
    private static final int[][] RUN = {{0, 0, 0}, {1, 5, 0}, {2, 5, 0}, {3, 5, 0}, {4, 5, 0}, {5, 1, 0}, {6, 1, 3},
        {7, 5, 0}, {8, 5, 0}, {9, 'a', 0}, {10, 0, 0}, {11, 2, 0}, {12, 0, 0}, {13, 0, 0}, {15, 5, 5}, {16, 5, 0},
        {17, 5, 0}, {18, 0, 0}, {13, 0, 0}, {14, 0, 0}};

    private static void names(Check check) {
        AccordHouse house = house();
        int name = 2;
        for (int[] given : RUN) {
            int sort = given[0];
            name++;
            check.due("sort " + sort, house.act(0, sort, objectFor(sort), partFor(sort), given[1], given[2]), name);
            check.due("its sort", house.row(0, name, 0), sort);
        }
        for (int node = 1; node < 4; node++) {
            check.due("the first one of another node", house.act(node, 0, 0, 0, 0, 0), 1000 * node + 1);
        }
    }

    private static void eachRefusal(Check check) {
        AccordHouse house = house();
        check.due("1", house.act(0, 1, 3, L, 5, 0), -1);
        check.due("2", house.act(0, 1, 1, S, 5, 0), -2);
        check.due("3", house.act(0, 11, 1, 0, 3, 0), -3);
        check.due("5", house.act(0, 4, 1, B, 0, 0), -5);
        for (int i = 3; i <= 250; i++) {
            house.act(0, 1, 1, L, i, 0);
        }
        check.due("4", house.act(0, 1, 1, L, 5, 0), -4);
    }

    /** What is seen of node 0 and of all. */
    private static String sight(AccordHouse house) {
        StringBuilder sight = new StringBuilder();
        for (int what = 0; what <= 55; what++) {
            sight.append(house.node(0, what)).append(' ');
        }
        for (int what = 0; what <= 5; what++) {
            sight.append(house.total(what)).append(' ');
        }
        for (int part = 0; part < 6; part++) {
            sight.append(Check.values(house, 0, 1, part)).append(' ');
        }
        for (int what = 0; what <= 4; what++) {
            sight.append(house.object(0, 1, what)).append(' ').append(house.object(0, 2, what)).append(' ');
        }
        return sight.append(Check.values(house, 0, 2, 0)).toString();
    }

    private static void nothingChanges(Check check) {
        AccordHouse house = house();
        house.act(0, 4, 1, B, 5, 0);
        house.act(0, 9, 1, T, 'a', 0);
        house.stand(0, 0, 0, L, 0, 9);
        house.tick(0, 3);
        int[][] refused = {{0, 19, 1, L, 5, 0}, {0, 0, 0, 0, 2, 0}, {0, 1, 9, L, 5, 0}, {0, 1, 1, 6, 5, 0},
            {0, 1, 1, S, 5, 0}, {0, 11, 1, 0, 9, 0}, {0, 4, 1, B, 0, 0}, {0, 5, 1, B, 6, 0}, {0, 6, 1, B, 6, 1},
            {0, 6, 1, B, 5, 0}, {0, 7, 1, A, 64, 0}, {0, 8, 1, A, 5, 0}, {0, 9, 1, T, 31, 0}, {0, 9, 1, T, 'b', 2},
            {0, 10, 1, T, 0, 1}, {0, 14, 0, 0, 0, 0}, {0, 15, 2, 0, 64, 0}, {0, 16, 2, 0, 5, 0}, {0, 17, 1, 0, 101, 0},
            {0, 18, 1, 0, 0, 0}, {4, 1, 1, L, 5, 0}};
        String ahead = sight(house);
        for (int[] given : refused) {
            int answer = house.act(given[0], given[1], given[2], given[3], given[4], given[5]);
            check.due("refused", answer < 0, true);
            check.dueText("all behind sort " + given[1], sight(house), ahead);
        }
        check.due("the next row's number", house.act(0, 1, 1, L, 5, 0), 5);
    }

    private static void orderOfRefusals(Check check) {
        AccordHouse house = house();
        house.act(0, 12, 2, 0, 0, 0);
        check.due("no object, another rule, not there, no number", house.act(0, 15, 9, 9, 64, 0), -1);
        check.due("no part ahead of another rule", house.act(0, 1, 2, 1, 5, 0), -1);
        check.due("another rule ahead of not there", house.act(0, 1, 2, 0, 5, 0), -2);
        check.due("another rule ahead of its numbers", house.act(0, 4, 1, A, 0, 0), -2);
        check.due("not there ahead of its numbers", house.act(0, 15, 2, 0, 64, 0), -3);
        check.due("a parent that is not there", house.act(0, 11, 1, 0, 2, 0), -3);
        for (int i = 4; i <= 250; i++) {
            house.act(0, 1, 1, L, i, 0);
        }
        check.due("no object ahead of all rows", house.act(0, 1, 9, L, 5, 0), -1);
        check.due("no kind ahead of all rows", house.act(0, 0, 0, 0, 2, 0), -1);
        check.due("another rule ahead of all rows", house.act(0, 1, 1, S, 5, 0), -2);
        check.due("not there ahead of all rows", house.act(0, 15, 2, 0, 5, 0), -3);
        check.due("numbers ahead of all rows", house.act(0, 7, 1, A, 64, 0), -5);
        check.due("no undone one ahead of all rows", house.act(0, 14, 0, 0, 0, 0), -5);
        check.due("all rows", house.act(0, 7, 1, A, 63, 0), -4);
        check.due("all rows of a make", house.act(0, 0, 0, 0, 0, 0), -4);
        check.due("all rows of an undo", house.act(0, 13, 0, 0, 0, 0), -4);
    }

    private static void noNode(Check check) {
        AccordHouse house = house();
        for (int[] given : RUN) {
            int sort = given[0];
            IntUnaryOperator act = node -> house.act(node, sort, objectFor(sort), partFor(sort), given[1], given[2]);
            check.dueEach("sort " + sort + ", node", act, -1, Edges.NO_NODES);
        }
    }

    private static void noSort(Check check) {
        AccordHouse house = house();
        check.dueEach("sort", sort -> house.act(0, sort, 1, L, 5, 0), -1, -1, 19, 20, -19, Integer.MIN_VALUE,
            Integer.MAX_VALUE);
    }

    private static void noKind(Check check) {
        AccordHouse none = new AccordHouse();
        check.due("there are none", none.act(0, 0, 0, 0, 0, 0), -1);
        AccordHouse house = house();
        check.dueEach("kind", kind -> house.act(0, 0, 0, 0, kind, 0), -1, -1, 2, 8, Integer.MIN_VALUE,
            Integer.MAX_VALUE);
        check.due("the last one", house.act(0, 0, 0, 0, 1, 0), 3);
        check.due("another sort's v is none", house.act(0, 1, 1, L, 2, 0), 4);
    }

    private static void noObject(Check check) {
        AccordHouse house = house();
        house.act(0, 1, 1, L, 5, 0);
        house.act(1, 0, 0, 0, 0, 0);
        int[] objects = {0, -1, 3, 4, 250, 251, 999, 1000, 1001, 2001, 3250, 4000, 4001, -999, Integer.MIN_VALUE,
            Integer.MAX_VALUE};
        for (int sort : WITH_OBJECT) {
            IntUnaryOperator act = object -> house.act(0, sort, object, partFor(sort), 5, 0);
            check.dueEach("sort " + sort + ", object", act, -1, objects);
        }
        check.due("made at its own node", house.act(1, 1, 1001, L, 5, 0), 1002);
        check.due("not that of the first one", house.act(1, 1, 1, L, 5, 0), -1);
        Check.bring(house, 1, 0);
        check.due("made there then", house.act(0, 1, 1001, L, 5, 0), 4);
        check.due("a make needs none", house.act(0, 0, 999, 0, 0, 0), 5);
        check.due("nor does an undo", house.act(0, 13, 999, 0, 0, 0), 6);
        check.due("nor a redo", house.act(0, 14, 999, 0, 0, 0), 7);
    }

    private static void noPart(Check check) {
        AccordHouse house = house();
        for (int sort : WITH_PART) {
            IntUnaryOperator ofSix = part -> house.act(0, sort, 1, part, 5, 0);
            check.dueEach("sort " + sort + ", part", ofSix, -1, -1, 6, 7, 8, Integer.MIN_VALUE, Integer.MAX_VALUE);
            IntUnaryOperator ofOne = part -> house.act(0, sort, 2, part, 5, 0);
            check.dueEach("sort " + sort + ", part of one", ofOne, -1, -1, 1, 5, 6);
        }
        check.due("the last part", house.act(0, 9, 1, 5, 'a', 0), 3);
        for (int part : new int[] {-1, 6, Integer.MIN_VALUE, Integer.MAX_VALUE}) {
            for (int sort : new int[] {17, 18, 11, 12, 13}) {
                check.due("no part is needed", house.act(0, sort, 1, part, sort == 11 ? -1 : 5, 0) > 0, true);
            }
        }
    }

    private static void anotherRule(Check check) {
        AccordHouse house = house();
        for (int sort : WITH_PART) {
            for (int part = 0; part < 6; part++) {
                if ("LSCBAT".charAt(part) != RULE_OF_SORT.charAt(sort)) {
                    check.due("sort " + sort + " of part " + part, house.act(0, sort, 1, part, 5, 1), -2);
                }
            }
            boolean map = RULE_OF_SORT.charAt(sort) == 'M';
            check.due("sort " + sort + " of a map", house.act(0, sort, 2, 0, 5, 1) == -2, !map);
        }
    }

    private static void notThere(Check check) {
        AccordHouse house = house();
        house.act(0, 9, 1, T, 'a', 0);
        house.act(0, 4, 1, B, 100, 0);
        house.act(0, 7, 1, A, 5, 0);
        house.act(0, 15, 2, 0, 5, 5);
        house.act(0, 17, 1, 0, 100, 0);
        house.act(0, 12, 1, 0, 0, 0);
        house.act(0, 12, 2, 0, 0, 0);
        for (int sort : WITH_OBJECT) {
            check.due("sort " + sort, house.act(0, sort, objectFor(sort), partFor(sort), sort == 11 ? -1 : 5, 0), -3);
        }
        Check.bring(house, 0, 1);
        check.due("nor at another node", house.act(1, 1, 1, L, 5, 0), -3);
        check.due("the drop is undone", house.act(0, 13, 0, 0, 0, 0), 10);
        check.due("there again", house.act(0, 16, 2, 0, 5, 5), 11);
        check.due("not there at the other node yet", house.act(1, 16, 2, 0, 5, 5), -3);
    }

    private static void noParent(Check check) {
        AccordHouse house = house();
        house.act(0, 0, 0, 0, 0, 0);
        house.act(0, 12, 3, 0, 0, 0);
        house.act(1, 0, 0, 0, 0, 0);
        check.dueEach("parent", v -> house.act(0, 11, 1, 0, v, 0), -3, 0, -2, 3, 4, 5, 1001, 4001, Integer.MIN_VALUE,
            Integer.MAX_VALUE);
        check.due("none", house.act(0, 11, 1, 0, -1, 0), 5);
        check.due("one that is there", house.act(0, 11, 1, 0, 2, 0), 6);
        check.due("itself is there", house.act(0, 11, 1, 0, 1, 0), 7);
    }

    private static void rowsAreMade(Check check) {
        AccordHouse house = Check.house("LA");
        for (int i = 2; i <= 250; i++) {
            check.due("row " + i, house.act(0, 1, 1, 0, i, 0), i);
        }
        check.due("row 251", house.act(0, 1, 1, 0, 251, 0), -4);
        check.due("250 are made", house.total(4), 250);
        check.due("the value of the last one", house.value(0, 1, 0, 0), 250);
        check.due("another node has room", house.act(3, 0, 0, 0, 0, 0), 3001);
        house.join(1, 0);
        check.due("what others made does not count", house.act(1, 1, 1, 0, 5, 0), 1001);
        check.due("still none", house.act(0, 12, 1, 0, 0, 0), -4);
    }

    private static void makesAreMade(Check check) {
        AccordHouse house = new AccordHouse();
        Check.kind(house, "L");
        house.act(0, 0, 0, 0, 0, 0);
        house.act(0, 1, 1, 0, 5, 0);
        for (int i = 3; i <= 13; i++) {
            check.due("make", house.act(0, 0, 0, 0, 0, 0), i);
        }
        check.due("a thirteenth one", house.act(0, 0, 0, 0, 0, 0), -4);
        check.due("other sorts are made", house.act(0, 12, 13, 0, 0, 0), 14);
        check.due("a dropped one counts on", house.act(0, 0, 0, 0, 0, 0), -4);
        check.due("none came", house.node(0, 4), 11);
        for (int i = 1; i <= 12; i++) {
            check.due("another node's", house.act(3, 0, 0, 0, 0, 0), 3000 + i);
        }
        check.due("its thirteenth one", house.act(3, 0, 0, 0, 0, 0), -4);
    }

    private static void issue(Check check) {
        AccordHouse house = house();
        check.dueEach("issue", v -> house.act(0, 4, 1, B, v, 0), -5, 0, -1, 1001, Integer.MIN_VALUE, Integer.MAX_VALUE);
        check.due("1", house.act(0, 4, 1, B, 1, 0), 3);
        check.due("1000", house.act(0, 4, 1, B, 1000, 0), 4);
        check.dueText("shares", Check.values(house, 0, 1, B), "1001,0,0,0,1001");
    }

    private static void spendRange(Check check) {
        AccordHouse house = house();
        house.act(0, 4, 1, B, 1000, 0);
        house.act(0, 4, 1, B, 1000, 0);
        house.act(0, 4, 1, B, 2, 0);
        int[] wrong = {0, -1, 1001, Integer.MIN_VALUE, Integer.MAX_VALUE};
        check.dueEach("spend", v -> house.act(0, 5, 1, B, v, 0), -5, wrong);
        check.dueEach("lend", v -> house.act(0, 6, 1, B, v, 1), -5, wrong);
        check.due("spend 1000", house.act(0, 5, 1, B, 1000, 0), 6);
        check.due("lend 1000", house.act(0, 6, 1, B, 1000, 1), 7);
        check.due("spend 1", house.act(0, 5, 1, B, 1, 0), 8);
        check.due("lend 1", house.act(0, 6, 1, B, 1, 1), 9);
        check.dueText("shares", Check.values(house, 0, 1, B), "0,1001,0,0,1001");
    }

    private static void ownShare(Check check) {
        AccordHouse house = house();
        check.due("spend of nothing", house.act(0, 5, 1, B, 1, 0), -5);
        check.due("lend of nothing", house.act(0, 6, 1, B, 1, 1), -5);
        house.act(0, 4, 1, B, 10, 0);
        check.due("spend 11 of 10", house.act(0, 5, 1, B, 11, 0), -5);
        check.due("lend 11 of 10", house.act(0, 6, 1, B, 11, 1), -5);
        check.due("lend 4", house.act(0, 6, 1, B, 4, 1), 4);
        check.due("spend 7 of 6", house.act(0, 5, 1, B, 7, 0), -5);
        check.due("spend 6 of 6", house.act(0, 5, 1, B, 6, 0), 5);
        check.due("nothing is left", house.act(0, 5, 1, B, 1, 0), -5);
        Check.bring(house, 0, 1);
        check.due("5 of the lent 4", house.act(1, 5, 1, B, 5, 0), -5);
        check.due("lend on the lent 4", house.act(1, 6, 1, B, 4, 2), 1001);
        check.due("others' shares are no own ones", house.act(1, 5, 1, B, 1, 0), -5);
    }

    private static void lendTo(Check check) {
        AccordHouse house = house();
        house.act(0, 4, 1, B, 10, 0);
        check.dueEach("lend to", w -> house.act(0, 6, 1, B, 1, w), -5, 0, -1, 4, Integer.MIN_VALUE, Integer.MAX_VALUE);
        for (int node = 1; node < 4; node++) {
            check.due("lend to " + node, house.act(0, 6, 1, B, node, node), 3 + node);
        }
        check.dueText("shares", Check.values(house, 0, 1, B), "4,1,2,3,10");
        house.join(3, 0);
        check.due("the last node to itself", house.act(3, 6, 1, B, 1, 3), -5);
        check.due("the last node to the first one", house.act(3, 6, 1, B, 1, 0), 3001);
    }

    private static void enter(Check check) {
        AccordHouse house = house();
        check.dueEach("enter", v -> house.act(0, 7, 1, A, v, 0), -5, -1, 64, Integer.MIN_VALUE, Integer.MAX_VALUE);
        check.due("63", house.act(0, 7, 1, A, 63, 0), 3);
        check.due("0", house.act(0, 7, 1, A, 0, 0), 4);
        check.due("one that is in it", house.act(0, 7, 1, A, 0, 0), 5);
        check.dueText("the set", Check.values(house, 0, 1, A), "0,63");
    }

    private static void leave(Check check) {
        AccordHouse house = house();
        check.due("of an empty set", house.act(0, 8, 1, A, 0, 0), -5);
        house.act(0, 7, 1, A, 0, 0);
        house.act(0, 7, 1, A, 63, 0);
        check.dueEach("leave", v -> house.act(0, 8, 1, A, v, 0), -5, 1, 62, 64, -1, Integer.MIN_VALUE,
            Integer.MAX_VALUE);
        check.due("63", house.act(0, 8, 1, A, 63, 0), 5);
        check.due("63 again", house.act(0, 8, 1, A, 63, 0), -5);
        check.due("0", house.act(0, 8, 1, A, 0, 0), 6);
        check.due("0 again", house.act(0, 8, 1, A, 0, 0), -5);
    }

    private static void character(Check check) {
        AccordHouse house = house();
        check.dueEach("character", v -> house.act(0, 9, 1, T, v, 0), -5, 31, 127, 0, -1, 'a' + 256, Integer.MIN_VALUE,
            Integer.MAX_VALUE);
        check.due("32", house.act(0, 9, 1, T, 32, 0), 3);
        check.due("126", house.act(0, 9, 1, T, 126, 0), 4);
        check.dueText("the text", Check.text(house, 0, 1, T), "~ ");
    }

    private static void placeOfInsert(Check check) {
        AccordHouse house = house();
        check.dueEach("place in an empty text", w -> house.act(0, 9, 1, T, 'a', w), -5, 1, -1, Integer.MIN_VALUE,
            Integer.MAX_VALUE);
        check.due("the only place", house.act(0, 9, 1, T, 'a', 0), 3);
        check.due("behind the end", house.act(0, 9, 1, T, 'b', 2), -5);
        check.due("at the end", house.act(0, 9, 1, T, 'b', 1), 4);
        house.act(0, 10, 1, T, 0, 0);
        check.due("an erased one is no character", house.act(0, 9, 1, T, 'c', 2), -5);
        check.due("at the end", house.act(0, 9, 1, T, 'c', 1), 6);
        check.dueText("the text", Check.text(house, 0, 1, T), "bc");
    }

    private static void insertAhead(Check check) {
        AccordHouse house = house();
        house.act(0, 9, 1, T, 'a', 0);
        house.act(0, 9, 1, T, 'b', 1);
        house.act(0, 9, 1, T, 'c', 0);
        house.act(0, 9, 1, T, 'd', 3);
        check.due("in an empty text", house.row(0, 3, 4), 0);
        check.due("behind a", house.row(0, 4, 4), 3);
        check.due("at place 0", house.row(0, 5, 4), 0);
        check.due("at the end", house.row(0, 6, 4), 4);
        house.act(0, 10, 1, T, 0, 1);
        house.act(0, 9, 1, T, 'e', 1);
        check.due("of those that stand", house.row(0, 8, 4), 5);
        check.dueText("the text", Check.text(house, 0, 1, T), "cebd");
    }

    private static void erase(Check check) {
        AccordHouse house = house();
        check.dueEach("of an empty text", w -> house.act(0, 10, 1, T, 0, w), -5, 0, -1, 1);
        Check.commit(house, 0, 1, T, "abc");
        check.dueEach("place", w -> house.act(0, 10, 1, T, 0, w), -5, -1, 3, Integer.MIN_VALUE, Integer.MAX_VALUE);
        check.due("the last one", house.act(0, 10, 1, T, 0, 2), 6);
        check.due("its insert", house.row(0, 6, 4), 5);
        check.due("the first one", house.act(0, 10, 1, T, 0, 0), 7);
        check.due("its insert", house.row(0, 7, 4), 3);
        check.due("there is one alone", house.act(0, 10, 1, T, 0, 1), -5);
        check.due("the only one", house.act(0, 10, 1, T, 0, 0), 8);
        check.due("its insert", house.row(0, 8, 4), 4);
        check.due("none is left", house.act(0, 10, 1, T, 0, 0), -5);
    }

    private static void bind(Check check) {
        AccordHouse house = house();
        check.dueEach("key", v -> house.act(0, 15, 2, 0, v, 1), -5, -1, 64, Integer.MIN_VALUE, Integer.MAX_VALUE);
        check.due("0 to the least", house.act(0, 15, 2, 0, 0, Integer.MIN_VALUE), 3);
        check.due("63 to the greatest", house.act(0, 15, 2, 0, 63, Integer.MAX_VALUE), 4);
        check.due("0", house.bound(0, 2, 0, 0), Integer.MIN_VALUE);
        check.due("63", house.bound(0, 2, 0, 63), Integer.MAX_VALUE);
    }

    private static void unbind(Check check) {
        AccordHouse house = house();
        check.due("of an empty map", house.act(0, 16, 2, 0, 0, 0), -5);
        house.act(0, 15, 2, 0, 0, 7);
        house.act(0, 15, 2, 0, 63, 7);
        check.dueEach("key", v -> house.act(0, 16, 2, 0, v, 0), -5, 1, 7, 62, 64, -1, Integer.MIN_VALUE,
            Integer.MAX_VALUE);
        check.due("63", house.act(0, 16, 2, 0, 63, 0), 5);
        check.due("63 again", house.act(0, 16, 2, 0, 63, 0), -5);
        check.due("0", house.act(0, 16, 2, 0, 0, 0), 6);
        check.due("0 again", house.act(0, 16, 2, 0, 0, 0), -5);
    }

    private static void claim(Check check) {
        AccordHouse house = house();
        check.dueEach("claim for", v -> house.act(0, 17, 1, 0, v, 0), -5, 0, -1, 101, Integer.MIN_VALUE,
            Integer.MAX_VALUE);
        check.due("for 1", house.act(0, 17, 1, 0, 1, 0), 3);
        house.tick(0, 1);
        check.due("it is over", house.object(0, 1, 4), -1);
        check.due("for 100", house.act(0, 17, 1, 0, 100, 0), 4);
        house.tick(0, 99);
        check.due("its last time", house.object(0, 1, 4), 0);
        house.tick(0, 1);
        check.due("it is over", house.object(0, 1, 4), -1);
    }

    private static void claimOfAnother(Check check) {
        AccordHouse house = house();
        house.act(0, 17, 1, 0, 10, 0);
        check.due("the holder may", house.act(0, 17, 1, 0, 10, 0), 4);
        Check.bring(house, 0, 1);
        check.due("another may not", house.act(1, 17, 1, 0, 1, 0), -5);
        check.due("another object it may", house.act(1, 17, 2, 0, 1, 0), 1001);
        house.tick(1, 9);
        check.due("not at the last time", house.act(1, 17, 1, 0, 1, 0), -5);
        house.tick(1, 1);
        check.due("but at the next one", house.act(1, 17, 1, 0, 1, 0), 1002);
        house.act(0, 18, 1, 0, 0, 0);
        Check.bring(house, 0, 2);
        check.due("or when it is released", house.act(2, 17, 1, 0, 1, 0), 2001);
    }

    private static void release(Check check) {
        AccordHouse house = house();
        check.due("nobody is", house.act(0, 18, 1, 0, 0, 0), -5);
        house.act(0, 17, 1, 0, 10, 0);
        check.due("not of the other object", house.act(0, 18, 2, 0, 0, 0), -5);
        Check.bring(house, 0, 1);
        check.due("another one is", house.act(1, 18, 1, 0, 0, 0), -5);
        house.tick(0, 9);
        check.due("at the last time", house.act(0, 18, 1, 0, 0, 0), 4);
        check.due("not twice", house.act(0, 18, 1, 0, 0, 0), -5);
        house.act(0, 17, 1, 0, 1, 0);
        house.tick(0, 1);
        check.due("not when it is over", house.act(0, 18, 1, 0, 0, 0), -5);
    }

    private static void undoSought(Check check) {
        AccordHouse house = house();
        int[][] undone = {{1, 5, 0}, {2, 5, 0}, {3, 5, 0}, {7, 5, 0}, {8, 5, 0}, {9, 'a', 0}, {10, 0, 0}, {11, 2, 0},
            {15, 5, 5}, {16, 5, 0}, {12, 0, 0}};
        int[] names = new int[undone.length];
        for (int i = 0; i < undone.length; i++) {
            int sort = undone[i][0];
            names[i] = house.act(0, sort, objectFor(sort), partFor(sort), undone[i][1], undone[i][2]);
            house.act(0, 4, i + 1 < undone.length ? 1 : 2, B, 1, 0);
        }
        for (int i = undone.length - 1; i >= 0; i--) {
            int undo = house.act(0, 13, 7, 7, 7, 7);
            check.due("v of the undo", house.row(0, undo, 3), 0);
            check.due("w of the undo of sort " + undone[i][0], house.row(0, undo, 4), names[i]);
        }
        check.due("a make, shares and claims are not sought", house.act(0, 13, 0, 0, 0, 0), -5);
    }

    private static void undoNone(Check check) {
        AccordHouse house = Check.house("LB");
        check.due("a make alone", house.act(0, 13, 0, 0, 0, 0), -5);
        house.act(0, 4, 1, 1, 5, 0);
        house.act(0, 17, 1, 0, 5, 0);
        check.due("shares and claims alone", house.act(0, 13, 0, 0, 0, 0), -5);
        house.act(0, 1, 1, 0, 5, 0);
        house.act(0, 1, 1, 0, 6, 0);
        for (int m = 1; m < 3; m++) {
            Check.bring(house, 0, m);
            Check.bring(house, m, 0);
        }
        check.due("one node is missing", house.act(0, 13, 0, 0, 0, 0), 6);
        Check.bring(house, 0, 3);
        Check.bring(house, 3, 0);
        check.due("row 4 is stable now", house.row(0, 4, 8), 1);
        check.due("row 5 is undone", house.row(0, 5, 7), 0);
        check.due("it is stable", house.act(0, 13, 0, 0, 0, 0), -5);
        check.due("others have none of their own", house.act(1, 13, 0, 0, 0, 0), -5);
    }

    private static void redoSought(Check check) {
        AccordHouse house = Check.house("L");
        for (int i = 2; i <= 4; i++) {
            house.act(0, 1, 1, 0, i, 0);
        }
        for (int i = 4; i >= 2; i--) {
            check.due("undo", house.row(0, house.act(0, 13, 0, 0, 0, 0), 4), i);
        }
        check.due("redo", house.act(0, 14, 7, 7, 7, 7), 8);
        check.due("that which was undone last", house.row(0, 8, 4), 2);
        check.due("undo", house.act(0, 13, 0, 0, 0, 0), 9);
        check.due("the same one", house.row(0, 9, 4), 2);
        for (int i = 2; i <= 4; i++) {
            check.due("redo", house.row(0, house.act(0, 14, 0, 0, 0, 0), 4), i);
        }
        AccordHouse other = Check.house("LM");
        for (int node = 1; node < 4; node++) {
            other.join(node, node - 1);
            int first = other.act(node, 1, 1, 0, 5, 0);
            int second = other.act(node, 1, 1, 0, 6, 0);
            other.act(node, 13, 0, 0, 0, 0);
            other.act(node, 13, 0, 0, 0, 0);
            other.act(node, 15, 1, 1, 5, second);
            check.due("at node " + node, other.row(node, other.act(node, 14, 0, 0, 0, 0), 4), first);
            check.due("what a key is bound to is no undo", other.row(node, other.act(node, 14, 0, 0, 0, 0), 4), second);
        }
    }

    private static void redoNone(Check check) {
        AccordHouse house = Check.house("L");
        check.due("nothing was undone", house.act(0, 14, 0, 0, 0, 0), -5);
        house.act(0, 1, 1, 0, 5, 0);
        house.act(0, 13, 0, 0, 0, 0);
        house.join(1, 0);
        check.due("another node's is no own one", house.act(1, 14, 0, 0, 0, 0), -5);
        check.due("redo", house.act(0, 14, 0, 0, 0, 0), 4);
        check.due("none is undone any more", house.act(0, 14, 0, 0, 0, 0), -5);
    }

    private static void elseGiven(Check check) {
        AccordHouse house = house();
        int[][] given = {{0, 9, 9, 0, 9}, {1, 1, L, 9, 9}, {2, 1, S, 9, 9}, {3, 1, C, 9, 9}, {4, 1, B, 9, 9},
            {5, 1, B, 1, 9}, {6, 1, B, 1, 3}, {7, 1, A, 9, 9}, {8, 1, A, 9, 9}, {9, 1, T, 'a', 0}, {10, 1, T, 9, 0},
            {11, 1, 9, 2, 9}, {15, 2, 0, 9, 9}, {16, 2, 0, 9, 9}, {17, 1, 9, 9, 9}, {18, 1, 9, 9, 9}, {12, 1, 9, 9, 9},
            {13, 9, 9, 9, 9}, {14, 9, 9, 9, 9}};
        int[][] due = {{0, 0, 0, 0, 0}, {1, 1, L, 9, 0}, {2, 1, S, 9, 0}, {3, 1, C, 9, 0}, {4, 1, B, 9, 0},
            {5, 1, B, 1, 0}, {6, 1, B, 1, 3}, {7, 1, A, 9, 0}, {8, 1, A, 9, 0}, {9, 1, T, 'a', 0}, {10, 1, T, 0, 12},
            {11, 1, 0, 2, 0}, {15, 2, 0, 9, 9}, {16, 2, 0, 9, 0}, {17, 1, 0, 9, 0}, {18, 1, 0, 0, 0}, {12, 1, 0, 0, 0},
            {13, 0, 0, 0, 19}, {14, 0, 0, 0, 19}};
        for (int i = 0; i < given.length; i++) {
            int name = house.act(0, given[i][0], given[i][1], given[i][2], given[i][3], given[i][4]);
            check.due("the name", name, 3 + i);
            check.dueAll("row " + name, what -> house.row(0, name, what), due[i]);
        }
    }

    private ActEdges() {
    }
}
