/** Promises 28, 30 and 32 to 35: past, row, news, calm, node, total. */
final class LookEdges {
    private static final int LEAST = Integer.MIN_VALUE;
    private static final int MOST = Integer.MAX_VALUE;

    static void add(Edges edges) {
        edges.edge(28, "as it was when the first k ROWS that are APPLIED at a NODE were (0 .. all of them",
            LookEdges::pastValues);
        edges.edge(28, "0 of an OBJECT that was not MADE then)", LookEdges::pastOfUnmade);
        edges.edge(28, "NoSuchElementException: no such NODE, OBJECT that is MADE there, PART, k", LookEdges::pastOfNone);
        edges.edge(28, "or another RULE.", LookEdges::pastOfAnotherRule);
        edges.edge(30, "Of a ROW that is APPLIED at a NODE", LookEdges::rowIsApplied);
        edges.edge(30, "1: OBJECT (0 of 0, 13, 14)", LookEdges::rowWithoutObject);
        edges.edge(30, "7: 1 if it is GOOD, else 0, 8: 1 if it is STABLE, else 0", LookEdges::rowGoodAndStable);
        edges.edge(30, "9: which one it was to be APPLIED there (from 0 on), 10 .. 13: its VECTOR.",
            LookEdges::rowPlaceAndVector);
        edges.edge(30, "NONE if there is none such, or for another what.", LookEdges::rowOfNone);
        edges.edge(32, "what 0: the ROW's NAME, 1: the OBJECT's, 2: the PART, 6 or 7.", LookEdges::newsWhats);
        edges.edge(32, "NONE if there is none such, or for another what.", LookEdges::newsOfNone);
        edges.edge(33, "There are no NEWS and no entries of LISTS at a NODE any more: how many NEWS there were",
            LookEdges::calmed);
        edges.edge(33, "NONE if there is no such NODE.", LookEdges::calmOfNone);
        edges.edge(34, "0: its WATCH, 1: ROWS that are APPLIED, 2: those that WAIT, 3: NEWS, 4: OBJECTS that are THERE",
            LookEdges::nodeWhats);
        edges.edge(34, "5, 6: LAST, 7: ROWS that are STABLE, 8: entries of its LISTS, 9: NOW", LookEdges::nodeLast);
        edges.edge(34, "10 + q: KNOWN of NODE q, 20 + 4 * m + q: SEEN of NODE m for q (of itself KNOWN)",
            LookEdges::nodeSeen);
        edges.edge(34, "40 + 4 * m + q: SENT of NODE m for q (of itself 0).", LookEdges::nodeSent);
        edges.edge(34, "NONE if there is no such NODE, or for another what.", LookEdges::nodeOfNone);
        edges.edge(35, "0: KINDS, 1: characters of the tape, 2: FRAMES that wait, 3: FRAMES lost", LookEdges::totals);
        edges.edge(35, "4: ROWS made in all, 5: FRAMES refused.", LookEdges::totalRows);
        edges.edge(35, "NONE for another what.", LookEdges::totalOfNone);
    }

    private static void pastValues(Check check) {
        AccordHouse house = Check.house("LC");
        int[][] acts = {{1, 0, LEAST}, {3, 1, MOST}, {3, 1, 1}, {1, 0, MOST}, {13, 0, 0}, {14, 0, 0}, {13, 0, 0},
            {13, 0, 0}};
        for (int[] given : acts) {
            house.act(0, given[0], 1, given[1], given[2], 0);
        }
        check.dueAll("L at", k -> house.past(0, k, 1, 0), 0, 0, LEAST, LEAST, LEAST, MOST, LEAST, MOST, LEAST, LEAST);
        check.dueAll("C at", k -> house.past(0, k, 1, 1), 0, 0, 0, MOST, LEAST, LEAST, LEAST, LEAST, LEAST, MOST);
        check.due("all of them are as now", house.past(0, 9, 1, 1), house.value(0, 1, 1, 0));
        check.dueNoSuch("one more than all", () -> house.past(0, 10, 1, 0));
        house.join(1, 0);
        house.act(0, 12, 1, 0, 0, 0);
        check.due("also if it is not there", house.past(0, 10, 1, 1), MOST);
        check.dueNoSuch("the other node has fewer", () -> house.past(1, 10, 1, 1));
    }

    private static void pastOfUnmade(Check check) {
        AccordHouse house = Check.house("LC", "LC");
        house.act(0, 1, 2, 0, 7, 0);
        house.act(0, 3, 2, 1, 7, 0);
        for (int part = 0; part < 2; part++) {
            int p = part;
            check.dueAll("at", k -> house.past(0, k, 2, p), 0, 0, 0, part == 0 ? 7 : 0, 7);
        }
    }

    private static void pastOfNone(Check check) {
        AccordHouse house = Check.house("LC");
        house.act(0, 1, 1, 0, 5, 0);
        for (int node : Edges.NO_NODES) {
            check.dueNoSuch("node " + node, () -> house.past(node, 0, 1, 0));
        }
        for (int object : new int[] {0, 2, 3, -1, 1001, LEAST, MOST}) {
            check.dueNoSuch("object " + object, () -> house.past(0, 0, object, 0));
        }
        check.dueNoSuch("not made there", () -> house.past(1, 0, 1, 0));
        for (int part : new int[] {-1, 2, 6, LEAST, MOST}) {
            check.dueNoSuch("part " + part, () -> house.past(0, 2, 1, part));
        }
        for (int k : new int[] {-1, 3, LEAST, MOST}) {
            check.dueNoSuch("k " + k, () -> house.past(0, k, 1, 0));
        }
    }

    private static void pastOfAnotherRule(Check check) {
        AccordHouse house = Check.house("LSCBAT", "M");
        for (int part : new int[] {1, 3, 4, 5}) {
            check.dueNoSuch("part " + part, () -> house.past(0, 2, 1, part));
        }
        check.dueNoSuch("a map", () -> house.past(0, 2, 2, 0));
        check.due("L", house.past(0, 2, 1, 0), 0);
        check.due("C", house.past(0, 2, 1, 2), 0);
    }

    private static void rowIsApplied(Check check) {
        AccordHouse house = Check.house("LM");
        house.tick(0, 9);
        house.act(0, 15, 1, 1, 63, LEAST);
        check.dueAll("row 2", what -> house.row(0, 2, what), 15, 1, 1, 63, LEAST, 9, 0, 1, 0, 1, 1, 0, 0, 0);
        check.due("not applied there", house.row(1, 2, 0), -1);
        house.send(0, 1, false);
        house.lose(0);
        house.act(0, 1, 1, 0, 5, 0);
        house.send(0, 1, false);
        house.deliver(0);
        check.due("one that waits", house.row(1, 3, 0), -1);
        house.join(1, 0);
        check.due("applied there", house.row(1, 3, 0), 1);
    }

    private static void rowWithoutObject(Check check) {
        AccordHouse house = Check.house("L");
        house.act(0, 1, 1, 0, 5, 0);
        house.act(0, 13, 1, 0, 0, 0);
        house.act(0, 14, 1, 0, 0, 0);
        check.due("a make", house.row(0, 1, 1), 0);
        check.due("a set", house.row(0, 2, 1), 1);
        check.due("an undo", house.row(0, 3, 1), 0);
        check.due("a redo", house.row(0, 4, 1), 0);
    }

    private static void rowGoodAndStable(Check check) {
        AccordHouse house = Check.house("L");
        house.act(0, 1, 1, 0, 5, 0);
        house.act(0, 13, 0, 0, 0, 0);
        check.due("undone", house.row(0, 2, 7), 0);
        check.due("a make is good", house.row(0, 1, 7), 1);
        check.due("not stable", house.row(0, 1, 8), 0);
        for (int node = 1; node < 4; node++) {
            house.join(node, 0);
            house.send(node, 0, false);
            house.deliver(0);
        }
        check.dueEach("stable", name -> house.row(0, name, 8), 1, 1, 2, 3);
        check.due("undone and stable", house.row(0, 2, 7), 0);
        check.dueEach("not so at another node", name -> house.row(2, name, 8), 0, 1, 2, 3);
    }

    private static void rowPlaceAndVector(Check check) {
        AccordHouse house = Check.house("L");
        house.act(2, 0, 0, 0, 0, 0);
        Check.bring(house, 0, 2);
        house.act(2, 1, 1, 0, 5, 0);
        check.due("the first one", house.row(2, 2001, 9), 0);
        check.due("the second one", house.row(2, 1, 9), 1);
        check.due("the third one", house.row(2, 2002, 9), 2);
        check.due("elsewhere the first one", house.row(0, 1, 9), 0);
        check.dueAll("vector of the third one", q -> house.row(2, 2002, 10 + q), 1, 0, 1, 0, -1);
        check.dueAll("vector of the first one", q -> house.row(2, 2001, 10 + q), 0, 0, 0, 0, -1);
    }

    private static void rowOfNone(Check check) {
        AccordHouse house = Check.house("L");
        check.dueEach("name", name -> house.row(0, name, 0), -1, 0, 2, -1, 250, 251, 999, 1000, 1001, 3001, 4000, 4001,
            -999, LEAST, MOST);
        check.dueEach("what", what -> house.row(0, 1, what), -1, -1, 14, 15, LEAST, MOST);
        check.dueEach("node", node -> house.row(node, 1, 0), -1, Edges.NO_NODES);
        check.due("not applied there", house.row(3, 1, 0), -1);
        allRows(check);
    }

    /** No name at a limit is taken for a row of the node ahead or behind. */
    private static void allRows(Check check) {
        AccordHouse house = new AccordHouse();
        Check.kind(house, "L");
        for (int node = 0; node < 4; node++) {
            if (node > 0) {
                house.join(node, node - 1);
            }
            for (int i = 0; i < 12; i++) {
                house.act(node, 0, 0, 0, 0, 0);
            }
            for (int i = 13; i <= 250; i++) {
                house.act(node, 1, 1000 * node + 1, 0, i, 0);
            }
        }
        check.due("all rows", house.node(3, 1), 1000);
        check.due("made", house.total(4), 1000);
        int[] names = {0, 251, 252, 262, 999, 1000, 1251, 1262, 1999, 2000, 2251, 2262, 3000, 3251, 3252, 4000};
        check.dueEach("name", name -> house.row(3, name, 0), -1, names);
        check.dueEach("object", name -> house.object(3, name, 0), -1, names);
        for (int node = 0; node < 4; node++) {
            check.due("the last one", house.row(3, 1000 * node + 250, 3), 250);
            check.due("it came as", house.row(3, 1000 * node + 250, 9), 250 * node + 249);
            check.due("its value", house.value(3, 1000 * node + 1, 0, 0), 250);
            check.due("past", house.past(3, 1000, 1000 * node + 1, 0), 250);
            check.due("past of one less", house.past(3, 250 * node + 249, 1000 * node + 1, 0), 249);
        }
        check.due("objects", house.node(3, 4), 48);
        check.due("the last object", house.list(3, 47), 3012);
        check.due("no one behind it", house.list(3, 48), -1);
    }

    private static void newsWhats(Check check) {
        AccordHouse house = Check.house("LLLLLL", "L");
        house.act(0, 1, 1, 5, 7, 0);
        house.act(0, 11, 1, 0, 2, 0);
        house.act(0, 12, 1, 0, 0, 0);
        check.dueAll("made", what -> house.news(0, 0, what), 1, 1, 7);
        check.dueAll("set", what -> house.news(0, 2, what), 3, 1, 5);
        check.dueAll("moved", what -> house.news(0, 3, what), 4, 1, 6);
        check.dueAll("dropped", what -> house.news(0, 4, what), 5, 1, 7);
    }

    private static void newsOfNone(Check check) {
        AccordHouse house = Check.house("L");
        check.due("one", house.news(0, 0, 0), 1);
        check.dueEach("entry", i -> house.news(0, i, 0), -1, 1, -1, 250, LEAST, MOST);
        check.dueEach("what", what -> house.news(0, 0, what), -1, -1, 3, 6, 7, LEAST, MOST);
        check.dueEach("node", node -> house.news(node, 0, 0), -1, Edges.NO_NODES);
        check.due("none of another node", house.news(1, 0, 0), -1);
        house.calm(0);
        check.due("none any more", house.news(0, 0, 0), -1);
    }

    private static void calmed(Check check) {
        AccordHouse house = Check.house("L");
        house.stand(0, 0, 0, 0, 5, 5);
        house.act(0, 1, 1, 0, 5, 0);
        check.due("an entry", house.node(0, 8), 1);
        check.due("of another node", house.calm(1), 0);
        check.due("two", house.calm(0), 2);
        check.due("no news", house.node(0, 3), 0);
        check.due("no entries", house.node(0, 8), 0);
        check.due("no first entry", house.turned(0, 0, 0), -1);
        check.due("none", house.calm(0), 0);
        house.act(0, 1, 1, 0, 6, 0);
        check.dueAll("new ones are the first ones", what -> house.news(0, 0, what), 3, 1, 0);
        check.dueAll("new entries too", what -> house.turned(0, 0, what), 3, 0, 1, 0);
        check.due("one", house.calm(0), 1);
    }

    private static void calmOfNone(Check check) {
        AccordHouse house = Check.house("L");
        check.dueEach("node", house::calm, -1, Edges.NO_NODES);
        check.due("the news stay", house.node(0, 3), 1);
    }

    private static void nodeWhats(Check check) {
        AccordHouse house = Check.house("L", "L");
        house.act(0, 12, 2, 0, 0, 0);
        house.tick(0, 1000);
        check.dueAll("node 0", what -> house.node(0, what), 1000, 3, 0, 3, 1);
        house.send(0, 1, false);
        house.lose(0);
        house.act(0, 1, 1, 0, 5, 0);
        house.send(0, 1, false);
        house.deliver(0);
        check.dueAll("node 1", what -> house.node(1, what), 0, 0, 1, 0, 0);
    }

    private static void nodeLast(Check check) {
        AccordHouse house = Check.house("L");
        house.stand(0, 0, 0, 0, 5, 5);
        house.tick(0, 3);
        house.act(0, 1, 1, 0, 5, 0);
        house.act(0, 1, 1, 0, 6, 0);
        check.dueAll("node 0", what -> house.node(0, 5 + what), 3, 1, 0, 2, 3);
        house.tick(0, 1);
        check.due("NOW", house.node(0, 9), 4);
        for (int node = 1; node < 4; node++) {
            house.join(node, 0);
            house.send(node, 0, false);
            house.deliver(0);
        }
        check.due("all are stable", house.node(0, 7), 3);
        house.act(0, 1, 1, 0, 7, 0);
        check.due("but for a new one", house.node(0, 7), 3);
        for (int node = 1; node < 4; node++) {
            house.act(node, 1, 1, 0, 10 * node, 0);
            house.act(node, 1, 1, 0, 10 * node + 1, 0);
            Check.bring(house, node, 0);
        }
        for (int node = 1; node < 4; node++) {
            check.due("of node 3 its own two are, when the others have them", house.node(0, 7), node < 3 ? 3 : 5);
            Check.bring(house, 0, node);
            Check.bring(house, node, 0);
        }
        check.due("all of all nodes", house.node(0, 7), 10);
    }

    private static void nodeSeen(Check check) {
        AccordHouse house = Check.house("L");
        house.act(0, 1, 1, 0, 5, 0);
        house.act(3, 0, 0, 0, 0, 0);
        Check.bring(house, 3, 0);
        check.dueAll("known", q -> house.node(0, 10 + q), 2, 0, 0, 1);
        check.dueAll("of itself", q -> house.node(0, 20 + q), 2, 0, 0, 1);
        check.dueAll("of 1", q -> house.node(0, 24 + q), 0, 0, 0, 0);
        check.dueAll("of 3", q -> house.node(0, 32 + q), 0, 0, 0, 1);
        check.dueAll("of itself at 3", q -> house.node(3, 32 + q), 0, 0, 0, 1);
    }

    private static void nodeSent(Check check) {
        AccordHouse house = Check.house("L");
        house.act(0, 1, 1, 0, 5, 0);
        house.act(2, 0, 0, 0, 0, 0);
        Check.bring(house, 2, 0);
        Check.bring(house, 0, 3);
        check.dueAll("to itself", q -> house.node(0, 40 + q), 0, 0, 0, 0);
        check.dueAll("to 1", q -> house.node(0, 44 + q), 0, 0, 0, 0);
        check.dueAll("to 2", q -> house.node(0, 48 + q), 0, 0, 0, 0);
        check.dueAll("to 3", q -> house.node(0, 52 + q), 2, 0, 1, 0);
        check.dueAll("from 2 to 0", q -> house.node(2, 40 + q), 0, 0, 1, 0);
        check.dueAll("from 2 to itself", q -> house.node(2, 48 + q), 0, 0, 0, 0);
        house.send(0, 2, true);
        house.deliver(0);
        check.dueAll("behind an ask", q -> house.node(2, 40 + q), 2, 0, 1, 0);
    }

    private static void nodeOfNone(Check check) {
        AccordHouse house = Check.house("L");
        check.dueEach("what", what -> house.node(0, what), -1, -1, 14, 15, 19, 36, 39, 56, 57, LEAST, MOST);
        for (int what : new int[] {0, 9, 10, 13, 20, 35, 40, 55}) {
            check.due("what " + what, house.node(3, what), 0);
            check.dueEach("node", node -> house.node(node, what), -1, Edges.NO_NODES);
        }
    }

    private static void totals(Check check) {
        AccordHouse house = new AccordHouse();
        check.dueAll("at first", house::total, 0, 0, 0, 0, 0, 0);
        for (int i = 0; i < 8; i++) {
            Check.kind(house, "L");
        }
        Check.type(house, "abcdefghijklmnopqrstuvwxyzABCDEFGHIJKLMN");
        for (int i = 0; i < 61; i++) {
            house.send(0, 1, false);
        }
        check.dueAll("full", house::total, 8, 40, 60, 0);
        for (int i = 0; i < 61; i++) {
            house.lose(0);
        }
        check.dueAll("all are lost", house::total, 8, 40, 0, 60);
    }

    private static void totalRows(Check check) {
        AccordHouse house = Check.house("L");
        for (int node = 1; node < 4; node++) {
            house.join(node, 0);
            house.act(node, 1, 1, 0, 5, 0);
        }
        check.due("each once, whoever has applied it", house.total(4), 4);
        AccordHouse other = new AccordHouse();
        Check.kind(other, "L");
        int made = 0;
        for (int node = 0; node < 4; node++) {
            for (int i = 0; i <= 2 * node; i++) {
                made++;
                other.act(node, 0, 0, 0, 0, 0);
                check.due("of all nodes", other.total(4), made);
            }
        }
        house.act(0, 1, 2, 0, 5, 0);
        check.due("a refused one is none", house.total(4), 4);
        house.send(0, 1, false);
        house.twice(0);
        house.bend(0, 0, 1);
        house.bend(1, 0, 1);
        house.deliver(0);
        check.due("one frame is refused", house.total(5), 1);
        house.lose(0);
        check.due("a lost one is not", house.total(5), 1);
        check.due("lost", house.total(3), 1);
    }

    private static void totalOfNone(Check check) {
        AccordHouse house = Check.house("L");
        check.dueEach("what", house::total, -1, -1, 6, 7, LEAST, MOST);
    }

    private LookEdges() {
    }
}
