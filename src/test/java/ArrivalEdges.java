/** Promise 14: deliver; DELIVERED, and what happens when a row is applied. */
final class ArrivalEdges {
    private static final int LEAST = Integer.MIN_VALUE;
    private static final int MOST = Integer.MAX_VALUE;

    static void add(Edges edges) {
        edges.edge(14, "The k-th FRAME that waits is DELIVERED: how many ROWS were APPLIED", ArrivalEdges::delivered);
        edges.edge(14, "-2 if it is refused.", ArrivalEdges::refused);
        edges.edge(14, "NONE if there is none such.", ArrivalEdges::deliverNone);
        edges.edge(0, "one that is BENT is refused (nothing is done but that it is gone).", ArrivalEdges::bent);
        edges.edge(0, "SEEN of the sender is raised to the VECTOR, where that has more", ArrivalEdges::seenIsRaised);
        edges.edge(0, "CURSORS that were set more times than those known are known then.", ArrivalEdges::cursors);
        edges.edge(0, "one that is APPLIED is passed over", ArrivalEdges::passedOver);
        edges.edge(0, "(its number is 1 more than KNOWN, and KNOWN is nowhere below its VECTOR)", ArrivalEdges::ready);
        edges.edge(0, "as long as there are such ones, the first one in ORDER of those that WAIT and are READY",
            ArrivalEdges::firstOfThose);
        edges.edge(0, "any other one WAITS, unless it does already", ArrivalEdges::waitsOnce);
        edges.edge(0, "or 30 WAIT (it is lost then).", ArrivalEdges::thirtyWait);
        edges.edge(0, "(One that WAITED and is APPLIED does so no longer.)", ArrivalEdges::waitsNoLonger);
        edges.edge(0, "Behind an ASK SENT for its sender becomes its VECTOR", ArrivalEdges::sentBecomesVector);
        edges.edge(0, "a FRAME with ROWS is sent back at once (there is room, as the ASK waits no more).",
            ArrivalEdges::sentBack);
        edges.edge(0, "LAST becomes its STAMP, if that is greater", ArrivalEdges::last);
        addNews(edges);
    }

    private static void addNews(Edges edges) {
        edges.edge(0, "for each OBJECT and PART (6: its parent, 7: whether it is THERE)", ArrivalEdges::newsOfEach);
        edges.edge(0, "(by values, not by the ROWS from which they are", ArrivalEdges::newsByValues);
        edges.edge(0, "what is not MADE has 0, nothing, no parent, is not THERE)", ArrivalEdges::newsOfMake);
        edges.edge(0, "by OBJECTS' NAMES, then PARTS", ArrivalEdges::newsByNames);
        edges.edge(0, "the first 250 are kept", ArrivalEdges::newsKept);
        edges.edge(0, "(of M keys and what they are bound to are seen)", ArrivalEdges::newsOfMaps);
        edges.edge(0, "an entry for each OBJECT that came to it or went from it, by LISTS, then NAMES",
            ArrivalEdges::turnsByLists);
        edges.edge(0, "the first 200 are kept.", ArrivalEdges::turnsKept);
    }

    private static void delivered(Check check) {
        AccordHouse house = Check.houseOfSets(9);
        house.send(0, 1, false);
        house.send(0, 1, false);
        house.send(0, 1, false);
        house.send(0, 2, false);
        check.due("one without rows", house.deliver(2), 0);
        check.due("the last one", house.deliver(2), 8);
        check.due("the first one", house.deliver(0), 8);
        check.due("the rest", house.deliver(0), 2);
        check.due("none waits", house.total(2), 0);
        check.due("all came", house.node(1, 1), 10);
        check.due("eight came", house.node(2, 1), 8);
    }

    private static void refused(Check check) {
        AccordHouse house = Check.houseOfSets(0);
        house.send(0, 1, false);
        house.twice(0);
        house.bend(0, 0, 1);
        check.due("bent", house.deliver(0), -2);
        check.due("one is refused", house.total(5), 1);
        check.due("none is lost", house.total(3), 0);
        check.due("not bent", house.deliver(0), 1);
        check.due("one is refused", house.total(5), 1);
    }

    private static void deliverNone(Check check) {
        AccordHouse house = Check.houseOfSets(0);
        check.due("none waits", house.deliver(0), -1);
        house.send(0, 1, false);
        check.dueEach("frame", house::deliver, -1, 1, -1, 60, LEAST, MOST);
        check.due("it waits on", house.total(2), 1);
        check.due("nothing came", house.node(1, 1), 0);
        check.due("none is refused", house.total(5), 0);
    }

    private static void bent(Check check) {
        AccordHouse house = Check.houseOfSets(2);
        house.cursor(0, 1, 1, 0);
        house.send(0, 1, false);
        house.bend(0, 5, 64);
        check.due("rows", house.deliver(0), -2);
        house.send(0, 1, true);
        house.bend(0, 5, 64);
        check.due("an ask", house.deliver(0), -2);
        check.due("gone, and no answer", house.total(2), 0);
        check.due("nothing is applied", house.node(1, 1), 0);
        check.due("nothing waits", house.node(1, 2), 0);
        check.due("nothing is seen", house.node(1, 20), 0);
        check.due("no cursor", house.where(1, 0, 0), 0);
        check.due("no news", house.node(1, 3), 0);
        check.due("what went has gone", house.node(0, 44), 3);
        check.due("nothing went back", house.node(1, 40), 0);
        check.due("two are refused", house.total(5), 2);
        house.send(1, 0, true);
        check.due("the next one is not bent", house.deliver(0), 0);
        check.due("nor its answer", house.deliver(0), 3);
        house.send(0, 2, false);
        house.bend(0, 5, 64);
        house.send(0, 3, false);
        check.due("the later one is not", house.deliver(1), 3);
        check.due("the earlier one is", house.deliver(0), -2);
    }

    private static void seenIsRaised(Check check) {
        AccordHouse house = Check.houseOfSets(1);
        house.send(0, 1, false);
        house.act(0, 1, 1, 0, 9, 0);
        house.send(0, 1, false);
        house.deliver(1);
        check.due("though its row waits", house.node(1, 20), 3);
        house.deliver(0);
        check.due("an older one has less", house.node(1, 20), 3);
        house.act(3, 0, 0, 0, 0, 0);
        house.send(3, 1, true);
        house.deliver(0);
        check.dueAll("of the sender alone", q -> house.node(1, 32 + q), 0, 0, 0, 1);
        check.dueAll("of another one", q -> house.node(1, 20 + q), 3, 0, 0, 0);
        check.dueAll("of itself known", q -> house.node(1, 24 + q), 3, 0, 0, 0);
        check.due("not of the sender's side", house.node(0, 24), 0);
    }

    private static void cursors(Check check) {
        AccordHouse house = Check.houseOfSets(0);
        Check.commit(house, 0, 1, 1, "abc");
        Check.bring(house, 0, 1);
        house.cursor(0, 1, 1, 1);
        house.send(0, 1, true);
        house.cursor(0, 1, 1, 2);
        house.send(0, 1, true);
        house.twice(1);
        house.cursor(0, 1, 1, 3);
        house.deliver(1);
        check.dueAll("more times", what -> house.where(1, 0, what), 2, 1, 1, 2);
        house.deliver(0);
        check.dueAll("fewer times", what -> house.where(1, 0, what), 2, 1, 1, 2);
        house.deliver(0);
        check.dueAll("as many times", what -> house.where(1, 0, what), 2, 1, 1, 2);
        house.cursor(1, 1, 1, 0);
        house.send(1, 0, true);
        int last = house.total(2) - 1;
        house.deliver(last);
        check.dueAll("the own one is later than what others know", what -> house.where(0, 0, what), 3, 1, 1, 3);
        check.dueAll("that of the sender", what -> house.where(0, 1, what), 1, 1, 1, 0);
    }

    private static void passedOver(Check check) {
        AccordHouse house = Check.houseOfSets(3);
        house.send(0, 1, false);
        house.twice(0);
        check.due("four", house.deliver(0), 4);
        int news = house.node(1, 3);
        check.due("none", house.deliver(0), 0);
        check.due("no news", house.node(1, 3), news);
        check.due("none waits", house.node(1, 2), 0);
        check.due("four still", house.node(1, 1), 4);
        house.send(1, 2, false);
        house.send(0, 2, false);
        house.deliver(0);
        check.due("by another way", house.deliver(0), 0);
    }

    private static void ready(Check check) {
        AccordHouse house = Check.houseOfSets(8);
        house.send(0, 1, false);
        house.send(0, 1, false);
        check.due("9 is more than 1 above 0", house.deliver(1), 0);
        check.due("it waits", house.node(1, 2), 1);
        check.due("1 is 1 above 0, and so on", house.deliver(0), 9);
        house.act(1, 1, 1, 0, 77, 0);
        house.send(1, 2, false);
        house.send(1, 2, false);
        check.due("the first one of its node, but its vector is above", house.deliver(1), 0);
        check.due("9 and 1001 wait", house.node(2, 2), 2);
        check.due("all ten", house.deliver(0), 10);
        house.act(0, 1, 1, 0, 78, 0);
        Check.bring(house, 0, 3);
        house.act(1, 1, 1, 0, 79, 0);
        house.send(1, 3, false);
        check.due("of those that came already none, and two more", house.deliver(0), 0);
        house.send(1, 3, false);
        check.due("KNOWN above its vector is fine", house.deliver(0), 2);
        check.due("all at 3", house.node(3, 1), 12);
    }

    /** Of rows that wait for the same one 2001 is the first in ORDER, then 1001, then 2002. */
    private static void firstOfThose(Check check) {
        AccordHouse house = Check.houseOfSets(0);
        house.join(3, 0);
        house.act(0, 1, 1, 0, 5, 0);
        for (int node = 1; node < 3; node++) {
            Check.bring(house, 0, node);
            house.send(node, 3, false);
            check.due("what was ahead is lost", house.lose(0), true);
        }
        int[][] acts = {{1, 9}, {2, 5}, {2, 20}};
        for (int[] given : acts) {
            house.tick(given[0], given[1]);
            house.act(given[0], 1, 1, 0, given[1], 0);
            house.send(given[0], 3, false);
        }
        check.dueAll("one row each", k -> house.frame(k, 3), 1, 1, 1, -1);
        for (int k : new int[] {2, 0, 0}) {
            check.due("it waits", house.deliver(k), 0);
        }
        check.due("three wait", house.node(3, 2), 3);
        house.send(0, 3, false);
        check.due("row 2, and all three", house.deliver(0), 4);
        int[] due = {1, 2, 2001, 1001, 2002};
        for (int i = 0; i < due.length; i++) {
            check.due("place of " + due[i], house.row(3, due[i], 9), i);
        }
    }

    private static void waitsOnce(Check check) {
        AccordHouse house = Check.houseOfSets(9);
        house.send(0, 1, false);
        house.send(0, 1, false);
        house.twice(1);
        check.due("not ready", house.deliver(1), 0);
        check.due("two wait", house.node(1, 2), 2);
        check.due("the same ones", house.deliver(1), 0);
        check.due("two still", house.node(1, 2), 2);
        check.due("all", house.deliver(0), 10);
        check.due("each once", house.node(1, 1), 10);
    }

    private static void thirtyWait(Check check) {
        AccordHouse house = Check.houseOfSets(39);
        for (int i = 0; i < 5; i++) {
            house.send(0, 1, false);
        }
        for (int i = 1; i <= 3; i++) {
            house.deliver(1);
            check.due("wait", house.node(1, 2), 8 * i);
        }
        house.twice(1);
        check.due("six of eight have room", house.deliver(1), 0);
        check.due("thirty", house.node(1, 2), 30);
        check.due("again", house.deliver(1), 0);
        check.due("thirty still", house.node(1, 2), 30);
        check.due("eight and the thirty", house.deliver(0), 38);
        check.due("none waits", house.node(1, 2), 0);
        check.due("two are lost", house.node(1, 1), 38);
        check.due("frames are not", house.total(3), 0);
        house.send(0, 1, false);
        check.due("they are not sent again", house.deliver(0), 0);
        house.send(1, 0, true);
        house.deliver(0);
        check.due("but when they are asked for", house.deliver(0), 2);
        AccordHouse thirty = Check.houseOfSets(0);
        thirty.send(0, 1, false);
        for (int i = 1; i <= 30; i++) {
            thirty.act(0, 1, 1, 0, i, 0);
        }
        for (int i = 0; i < 4; i++) {
            thirty.send(0, 1, false);
            thirty.deliver(1);
        }
        check.due("thirty wait", thirty.node(1, 2), 30);
        check.due("one, and the thirty", thirty.deliver(0), 31);
    }

    private static void waitsNoLonger(Check check) {
        AccordHouse house = Check.houseOfSets(9);
        house.send(0, 1, false);
        house.send(0, 1, false);
        house.deliver(1);
        check.due("two wait", house.node(1, 2), 2);
        house.deliver(0);
        check.due("none waits", house.node(1, 2), 0);
        check.due("they are applied", house.row(1, 10, 9), 9);
    }

    private static void sentBecomesVector(Check check) {
        AccordHouse house = Check.houseOfSets(9);
        house.send(0, 1, false);
        house.send(0, 1, false);
        house.lose(0);
        house.lose(0);
        check.due("all went", house.node(0, 44), 10);
        house.send(1, 0, true);
        house.deliver(0);
        check.due("down to 0, and up by eight rows", house.node(0, 44), 8);
        check.due("from the first one on", house.frame(0, 8), 1);
        house.deliver(0);
        house.act(3, 0, 0, 0, 0, 0);
        Check.bring(house, 3, 1);
        house.send(1, 0, true);
        house.deliver(0);
        check.dueAll("also above what is known here", q -> house.node(0, 44 + q), 10, 0, 0, 1);
        check.due("two rows", house.deliver(0), 2);
    }

    private static void sentBack(Check check) {
        AccordHouse house = Check.houseOfSets(9);
        for (int i = 0; i < 60; i++) {
            house.send(1, 0, true);
        }
        check.due("sixty asks", house.total(2), 60);
        check.due("deliver", house.deliver(59), 0);
        check.due("sixty", house.total(2), 60);
        check.dueAll("the answer is the last one", what -> house.frame(59, what), 0, 1, 0, 8, 10, 0, 0, 0, 1);
        check.due("the first ask", house.deliver(0), 0);
        check.dueAll("its answer", what -> house.frame(59, what), 0, 1, 0, 8);
        check.due("the first answer is ahead of it", house.frame(58, 0), 0);
        AccordHouse none = Check.houseOfSets(0);
        none.send(0, 1, true);
        none.deliver(0);
        check.dueAll("an answer without rows", what -> none.frame(0, what), 1, 0, 0, 0);
    }

    private static void last(Check check) {
        AccordHouse house = Check.houseOfSets(0);
        house.join(1, 0);
        house.tick(1, 9);
        house.act(1, 1, 1, 0, 5, 0);
        house.act(0, 1, 1, 0, 6, 0);
        Check.bring(house, 0, 1);
        check.due("an earlier time", house.node(1, 5), 9);
        check.due("its count", house.node(1, 6), 0);
        Check.bring(house, 1, 0);
        check.due("a later time", house.node(0, 5), 9);
        check.due("its count, though less", house.node(0, 6), 0);
        house.act(0, 1, 1, 0, 7, 0);
        house.act(0, 1, 1, 0, 8, 0);
        house.act(1, 1, 1, 0, 9, 0);
        Check.bring(house, 1, 0);
        check.due("the same time and less", house.node(0, 6), 2);
        Check.bring(house, 0, 1);
        check.due("the same time and more", house.node(1, 6), 2);
    }

    private static void dueNews(Check check, AccordHouse house, int node, int i, int... due) {
        check.dueAll("news " + i, what -> house.news(node, i, what), due);
    }

    private static void newsOfEach(Check check) {
        AccordHouse house = Check.house("LSCBAT", "M");
        dueNews(check, house, 0, 0, 1, 1, 7);
        dueNews(check, house, 0, 1, 2, 2, 7);
        int[][] acts = {{1, 0, 5, 0}, {2, 1, 5, 0}, {3, 2, 5, 0}, {4, 3, 5, 0}, {5, 3, 1, 0}, {6, 3, 1, 1}, {7, 4, 5, 0},
            {8, 4, 5, 0}, {9, 5, 'a', 0}, {10, 5, 0, 0}};
        for (int i = 0; i < acts.length; i++) {
            int name = house.act(0, acts[i][0], 1, acts[i][1], acts[i][2], acts[i][3]);
            dueNews(check, house, 0, 2 + i, name, 1, acts[i][1]);
        }
        int moved = house.act(0, 11, 1, 0, 2, 0);
        dueNews(check, house, 0, 12, moved, 1, 6);
        int dropped = house.act(0, 12, 1, 0, 0, 0);
        dueNews(check, house, 0, 13, dropped, 1, 7);
        int undone = house.act(0, 13, 0, 0, 0, 0);
        dueNews(check, house, 0, 14, undone, 1, 7);
        house.act(0, 17, 1, 0, 5, 0);
        house.act(0, 18, 1, 0, 0, 0);
        check.due("claims are none", house.node(0, 3), 15);
    }

    private static void newsByValues(Check check) {
        AccordHouse house = Check.house("LSCBAT", "M");
        house.act(0, 1, 1, 0, 5, 0);
        house.act(0, 2, 1, 1, 5, 0);
        house.act(0, 7, 1, 4, 5, 0);
        house.act(0, 11, 1, 0, 2, 0);
        house.calm(0);
        int[][] same = {{1, 1, 0, 5}, {2, 1, 1, 5}, {3, 1, 2, 0}, {7, 1, 4, 5}, {11, 1, 0, 2}, {11, 2, 0, 1},
            {11, 2, 0, -1}, {13, 0, 0, 0}, {14, 0, 0, 0}};
        for (int[] given : same) {
            int name = house.act(0, given[0], given[1], given[2], given[3], 0);
            check.due("a row is made", name > 0, true);
            check.due("no news of sort " + given[0], house.node(0, 3), 0);
        }
        check.due("its row is another one", house.by(0, 1, 0, 0), 7);
        house.act(0, 2, 1, 1, 6, 0);
        check.due("another value in place of one", house.calm(0), 1);
        house.join(2, 0);
        house.tick(2, 5);
        house.act(2, 1, 1, 0, 8, 0);
        house.act(0, 1, 1, 0, 7, 0);
        int earlier = house.node(2, 3);
        Check.bring(house, 0, 2);
        check.due("a set that is earlier in ORDER", house.node(2, 3), earlier);
        house.calm(0);
        Check.commit(house, 0, 1, 5, "ab");
        check.due("two letters", house.node(0, 3), 2);
        Check.bring(house, 0, 1);
        house.act(0, 10, 1, 5, 0, 0);
        house.act(1, 10, 1, 5, 0, 0);
        int news = house.node(1, 3);
        Check.bring(house, 0, 1);
        check.due("erased once more", house.node(1, 3), news);
        house.act(1, 9, 1, 5, 'b', 0);
        check.due("another letter in its place", house.node(1, 3), news + 1);
    }

    private static void newsOfMake(Check check) {
        AccordHouse house = Check.house("LSCBAT", "M", "BBBBBB");
        check.due("only that they are there", house.node(0, 3), 3);
        for (int i = 0; i < 3; i++) {
            dueNews(check, house, 0, i, i + 1, i + 1, 7);
        }
        house.act(0, 12, 3, 0, 0, 0);
        Check.bring(house, 0, 1);
        check.due("the same at another node", house.node(1, 3), 4);
        dueNews(check, house, 1, 3, 4, 3, 7);
    }

    /** A move that is undone gives way to another one: the parents of two change. */
    private static AccordHouse twoParents() {
        AccordHouse house = Check.house("L", "L");
        house.join(1, 0);
        house.act(1, 11, 2, 0, 1, 0);
        house.tick(0, 5);
        house.act(0, 11, 1, 0, 2, 0);
        Check.bring(house, 1, 0);
        return house;
    }

    private static void newsByNames(Check check) {
        AccordHouse house = twoParents();
        check.due("2 has a parent", house.object(0, 2, 2), 1);
        check.due("1 has none", house.object(0, 1, 2), -1);
        house.calm(0);
        house.act(1, 13, 0, 0, 0, 0);
        Check.bring(house, 1, 0);
        check.due("two", house.node(0, 3), 2);
        dueNews(check, house, 0, 0, 1002, 1, 6);
        dueNews(check, house, 0, 1, 1002, 2, 6);
        house.act(1, 14, 0, 0, 0, 0);
        Check.bring(house, 1, 0);
        dueNews(check, house, 0, 2, 1003, 1, 6);
        dueNews(check, house, 0, 3, 1003, 2, 6);
    }

    private static void newsKept(Check check) {
        AccordHouse house = twoParents();
        house.calm(0);
        for (int i = 0; i < 124; i++) {
            house.act(1, i % 2 == 0 ? 13 : 14, 0, 0, 0, 0);
        }
        Check.bring(house, 1, 0);
        check.due("124 times two", house.node(0, 3), 248);
        house.act(0, 1, 1, 0, 5, 0);
        check.due("249", house.node(0, 3), 249);
        house.act(1, 13, 0, 0, 0, 0);
        Check.bring(house, 1, 0);
        check.due("the first one of two", house.node(0, 3), 250);
        dueNews(check, house, 0, 249, 1126, 1, 6);
        house.act(0, 1, 1, 0, 6, 0);
        check.due("no more", house.node(0, 3), 250);
        check.due("the rows are applied all the same", house.value(0, 1, 0, 0), 6);
        check.due("no entry 250", house.news(0, 250, 0), -1);
        check.due("calm", house.calm(0), 250);
        house.act(0, 1, 1, 0, 7, 0);
        dueNews(check, house, 0, 0, house.by(0, 1, 0, 0), 1, 0);
    }

    private static void newsOfMaps(Check check) {
        AccordHouse house = Check.house("M");
        house.calm(0);
        int[][] acts = {{15, 5, 7, 1}, {15, 5, 7, 0}, {15, 5, 8, 1}, {15, 6, 8, 1}, {16, 5, 0, 1}, {15, 5, 8, 1},
            {13, 0, 0, 1}, {14, 0, 0, 1}, {15, 0, 0, 1}, {16, 0, 0, 1}, {15, 63, 0, 1}};
        int news = 0;
        for (int[] given : acts) {
            house.act(0, given[0], 1, 0, given[1], given[2]);
            news += given[3];
            check.due("news by sort " + given[0] + " of " + given[1], house.node(0, 3), news);
        }
    }

    private static void turnsByLists(Check check) {
        AccordHouse house = Check.house("LL");
        house.stand(0, 3, 0, 0, 1, 9);
        house.stand(0, 1, 0, 0, 0, 0);
        house.stand(0, 2, 0, 1, 0, 0);
        house.act(0, 1, 1, 0, 5, 0);
        check.dueAll("went from 1", what -> house.turned(0, 0, what), 2, 1, 1, 0);
        check.dueAll("came to 3", what -> house.turned(0, 1, what), 2, 3, 1, 1);
        check.due("the list of the other part", house.node(0, 8), 2);
        house.act(0, 12, 1, 0, 0, 0);
        check.dueAll("went from 2", what -> house.turned(0, 2, what), 3, 2, 1, 0);
        check.dueAll("went from 3", what -> house.turned(0, 3, what), 3, 3, 1, 0);
        house.act(0, 13, 0, 0, 0, 0);
        check.dueAll("came to 2", what -> house.turned(0, 4, what), 4, 2, 1, 1);
        house.act(0, 0, 0, 0, 0, 0);
        check.dueAll("a new one came to 1", what -> house.turned(0, 6, what), 5, 1, 5, 1);
        check.dueAll("and to 2", what -> house.turned(0, 7, what), 5, 2, 5, 1);
        check.due("eight", house.node(0, 8), 8);
        house.act(0, 1, 5, 0, 0, 0);
        check.due("the same value", house.node(0, 8), 8);
    }

    private static void turnsKept(Check check) {
        AccordHouse house = Check.house("L");
        for (int q = 0; q < 3; q++) {
            house.stand(0, q, 0, 0, 1, 1);
        }
        for (int i = 1; i <= 66; i++) {
            house.act(0, 1, 1, 0, i % 2, 0);
        }
        check.due("66 times three", house.node(0, 8), 198);
        house.act(0, 1, 1, 0, 1, 0);
        check.due("the first two of three", house.node(0, 8), 200);
        check.dueAll("the last one", what -> house.turned(0, 199, what), 68, 1, 1, 1);
        check.due("no entry 200", house.turned(0, 200, 0), -1);
        house.act(0, 1, 1, 0, 0, 0);
        check.due("no more", house.node(0, 8), 200);
        check.due("the lists go on", house.listed(0, 0, -1), 0);
        house.calm(0);
        house.act(0, 1, 1, 0, 1, 0);
        check.dueAll("from the first one on", what -> house.turned(0, 0, what), 70, 0, 1, 1);
    }

    private ArrivalEdges() {
    }
}
