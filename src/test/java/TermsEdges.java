/** The terms, and what a node sees. */
final class TermsEdges {
    static void add(Edges edges) {
        edges.edge(0, "An object is used for at most 512 calls after it has been made", TermsEdges::manyCalls);
        edges.edge(0, "NODES are 0 .. 3.", TermsEdges::fourNodes);
        edges.edge(0, "A KIND (of objects) has 1 to 6 PARTS", TermsEdges::sixParts);
        edges.edge(0, "All NODES know all KINDS.", TermsEdges::kindsAreKnown);
        edges.edge(0, "Each NODE has a WATCH (0 at first)", TermsEdges::watchAtFirst);
        edges.edge(0, "LAST (the greatest STAMP of these; 0, 0 at first)", TermsEdges::lastAtFirst);
        edges.edge(0, "SENT: of each other NODE how many ROWS of each NODE went to it (all 0 at first)",
            TermsEdges::seenAndSentAtFirst);
        edges.edge(0, "its NODE's first one is 1; its NAME is 1000 * NODE + number", TermsEdges::names);
        edges.edge(0, "a VECTOR (KNOWN of its NODE ahead of it)", TermsEdges::vectors);
        edges.edge(0, "TIME is the greater one of its WATCH and LAST's TIME", TermsEdges::times);
        edges.edge(0, "COUNT is 1 more than LAST's if TIME is LAST's, else 0", TermsEdges::counts);
        edges.edge(0, "ROWS are in ORDER by TIME, then COUNT, then NODE.", TermsEdges::order);
        edges.edge(0, "A ROW KNEW another one, if its VECTOR has at least that one's number for that one's NODE.",
            TermsEdges::knew);
        edges.edge(0, "the one with the greatest number is an UNDO; else it is GOOD.", TermsEdges::good);
        addSights(edges);
    }

    private static void addSights(Edges edges) {
        edges.edge(0, "WHAT A NODE SEES comes of the ROWS that are APPLIED there alone, in whatever order they came",
            TermsEdges::whateverOrder);
        edges.edge(0, "if it is MADE (its MAKE is APPLIED) and there is no GOOD DROP of it.", TermsEdges::there);
        edges.edge(0, "Its PARTS are as told also if it is not THERE", TermsEdges::partsOfDropped);
        edges.edge(0, "L: v of the GOOD SET of it that is the last in ORDER; 0 without.", TermsEdges::latest);
        edges.edge(0, "S: v of all GOOD PUTS of it that no other GOOD PUT of it KNEW, in ORDER.", TermsEdges::several);
        edges.edge(0, "C: the sum of v of all GOOD ADDS (wraps).", TermsEdges::sum);
        edges.edge(0, "they are five: the four SHARES, then their sum.", TermsEdges::shares);
        edges.edge(0, "a GOOD ENTER that no GOOD LEAVE of the same v KNEW, the least first.", TermsEdges::set);
        edges.edge(0, "T: first what was INSERTED behind the beginning, the last in ORDER first", TermsEdges::text);
        edges.edge(0, "of these all stand in the text that are GOOD and of which there is no GOOD ERASE.",
            TermsEdges::standing);
        edges.edge(0, "the last one in ORDER of their GOOD BINDS and UNBINDS is a BIND, the least first",
            TermsEdges::map);
        edges.edge(0, "if nobody holds it at its TIME or that NODE does", TermsEdges::claimHeld);
        edges.edge(0, "it holds it till its TIME and v (or longer, if it did already)", TermsEdges::claimLonger);
        edges.edge(0, "a RELEASE of the NODE that holds it at its TIME: it holds it till that TIME.",
            TermsEdges::release);
        edges.edge(0, "Who holds it till a time holds it at all times below that.", TermsEdges::timesBelow);
        edges.edge(0, "NOW is the greater one of a NODE's WATCH and LAST's TIME", TermsEdges::now);
        edges.edge(0, "(it has none then with -1; none has one at first)", TermsEdges::noParent);
        edges.edge(0, "but does nothing if v is that OBJECT, or has it as its parent, or parent's parent .., then.",
            TermsEdges::rings);
        edges.edge(0, "if all others are known (by SEEN) to know it.", TermsEdges::stable);
    }

    /** A run of exactly as many calls as are promised. */
    private static void manyCalls(Check check) {
        AccordHouse house = new AccordHouse();
        int calls = 3;
        Check.kind(house, "CL");
        check.due("make", house.act(0, 0, 0, 0, 0, 0), 1);
        for (int i = 2; i <= 250; i++) {
            check.due("add", house.act(0, 3, 1, 0, i, 0), i);
            calls++;
        }
        check.due("join", house.join(3, 0), true);
        calls++;
        for (int i = 1; i <= 250; i++) {
            check.due("set", house.act(3, 1, 1, 1, i, 0), 3000 + i);
            calls++;
        }
        for (int i = 0; i < 6; i++) {
            check.due("tick", house.tick(0, 1000), 1000 * i + 1000);
            calls++;
        }
        check.due("the sum", house.value(3, 1, 0, 0), 250 * 251 / 2 - 1);
        check.due("the value", house.value(3, 1, 1, 0), 250);
        check.due("no row more", house.act(3, 1, 1, 1, 5, 0), -4);
        check.due("so many calls", calls + 3, 512);
    }

    private static void fourNodes(Check check) {
        AccordHouse house = Check.house("LTM");
        for (int node : new int[] {0, 1, 2, 3}) {
            check.due("node " + node, house.node(node, 0), 0);
        }
        for (int node : Edges.NO_NODES) {
            check.due("tick", house.tick(node, 1), -1);
            check.due("act", house.act(node, 0, 0, 0, 0, 0), -1);
            check.due("commit", house.commit(node, 1, 1), -1);
            check.due("cursor", house.cursor(node, 1, 1, 0), false);
            check.due("where", house.where(node, 0, 0), -1);
            check.due("where of", house.where(0, node, 0), -1);
            check.due("stand", house.stand(node, 0, 0, 0, 0, 0), false);
            check.due("listed", house.listed(node, 0, -1), -1);
            check.due("turned", house.turned(node, 0, 0), -1);
            check.due("send", house.send(node, 1, false), false);
            check.due("send to", house.send(1, node, true), false);
            check.due("join", house.join(node, 0), false);
            check.due("join to", house.join(0, node), false);
            check.due("object", house.object(node, 1, 0), -1);
            check.due("size", house.size(node, 1, 0), -1);
            check.dueNoSuch("value", () -> house.value(node, 1, 0, 0));
            check.dueNoSuch("bound", () -> house.bound(node, 1, 2, 0));
            check.due("by", house.by(node, 1, 0, 0), -1);
            check.due("list", house.list(node, 0), -1);
            check.due("count", house.count(node, 0, 0, 0, 0), -1);
            check.due("ranked", house.ranked(node, 0, 0, 0), -1);
            check.dueNoSuch("past", () -> house.past(node, 0, 1, 0));
            check.due("was", house.was(node, 0, 1, 1, -1), -1);
            check.due("row", house.row(node, 1, 0), -1);
            check.due("news", house.news(node, 0, 0), -1);
            check.due("calm", house.calm(node), -1);
            check.due("node", house.node(node, 0), -1);
        }
    }

    private static void sixParts(Check check) {
        AccordHouse house = Check.house("L", "LLLLLL");
        check.due("one", house.size(0, 1, 0), 1);
        check.due("no second of one", house.size(0, 1, 1), -1);
        check.due("the sixth of six", house.act(0, 1, 2, 5, 7, 0), 3);
        check.due("its value", house.value(0, 2, 5, 0), 7);
        check.due("no seventh of six", house.size(0, 2, 6), -1);
        for (int part = 0; part < 5; part++) {
            check.due("the others stay", house.value(0, 2, part, 0), 0);
        }
    }

    private static void kindsAreKnown(Check check) {
        AccordHouse house = new AccordHouse();
        for (int kind = 0; kind < 8; kind++) {
            Check.kind(house, "L");
            for (int node = 0; node < 4; node++) {
                check.due("count", house.count(node, kind, 0, 0, 0), 0);
                check.due("no next one", house.count(node, kind + 1, 0, 0, 0), -1);
            }
        }
        check.due("make", house.act(3, 0, 0, 0, 7, 0), 3001);
    }

    private static void watchAtFirst(Check check) {
        AccordHouse house = new AccordHouse();
        check.dueEach("watch", node -> house.node(node, 0), 0, 0, 1, 2, 3);
        check.dueEach("NOW", node -> house.node(node, 9), 0, 0, 1, 2, 3);
    }

    private static void lastAtFirst(Check check) {
        AccordHouse house = new AccordHouse();
        check.dueEach("time", node -> house.node(node, 5), 0, 0, 1, 2, 3);
        check.dueEach("count", node -> house.node(node, 6), 0, 0, 1, 2, 3);
    }

    private static void seenAndSentAtFirst(Check check) {
        AccordHouse house = new AccordHouse();
        for (int node = 0; node < 4; node++) {
            for (int pair = 0; pair < 16; pair++) {
                check.due("seen", house.node(node, 20 + pair), 0);
                check.due("sent", house.node(node, 40 + pair), 0);
            }
            for (int q = 0; q < 4; q++) {
                check.due("known", house.node(node, 10 + q), 0);
            }
        }
    }

    private static void names(Check check) {
        AccordHouse house = new AccordHouse();
        Check.kind(house, "L");
        for (int node = 0; node < 4; node++) {
            check.due("the first one", house.act(node, 0, 0, 0, 0, 0), 1000 * node + 1);
            check.due("no one ahead of it", house.row(node, 1000 * node, 0), -1);
            for (int i = 2; i <= 250; i++) {
                house.act(node, 1, 1000 * node + 1, 0, i, 0);
            }
            check.due("the last one", house.row(node, 1000 * node + 250, 3), 250);
            check.due("no one behind it", house.row(node, 1000 * node + 251, 0), -1);
        }
    }

    private static void vectors(Check check) {
        AccordHouse house = Check.house("L");
        check.dueEach("of the first row", what -> house.row(0, 1, what), 0, 10, 11, 12, 13);
        house.act(0, 1, 1, 0, 5, 0);
        check.due("of the second row: one ahead", house.row(0, 2, 10), 1);
        house.join(3, 0);
        house.act(3, 1, 1, 0, 6, 0);
        check.dueAll("of another node's first row", q -> house.row(3, 3001, 10 + q), 2, 0, 0, 0);
        house.act(3, 1, 1, 0, 7, 0);
        check.dueAll("of its second row", q -> house.row(3, 3002, 10 + q), 2, 0, 0, 1);
    }

    private static void times(Check check) {
        AccordHouse house = Check.house("L");
        check.due("both are 0", house.row(0, 1, 5), 0);
        house.tick(0, 5);
        house.act(0, 1, 1, 0, 1, 0);
        check.due("the watch is greater", house.row(0, 2, 5), 5);
        Check.bring(house, 0, 1);
        house.tick(1, 4);
        house.act(1, 1, 1, 0, 2, 0);
        check.due("LAST is greater", house.row(1, 1001, 5), 5);
        house.tick(1, 1);
        house.act(1, 1, 1, 0, 3, 0);
        check.due("both are the same", house.row(1, 1002, 5), 5);
        house.tick(1, 1);
        house.act(1, 1, 1, 0, 4, 0);
        check.due("the watch is greater by 1", house.row(1, 1003, 5), 6);
    }

    private static void counts(Check check) {
        AccordHouse house = Check.house("L");
        check.due("LAST is 0, 0 at first: its time is the same", house.row(0, 1, 6), 1);
        house.act(0, 1, 1, 0, 1, 0);
        check.due("1 more", house.row(0, 2, 6), 2);
        house.tick(0, 1);
        house.act(0, 1, 1, 0, 2, 0);
        check.due("another time", house.row(0, 3, 6), 0);
        house.act(0, 1, 1, 0, 3, 0);
        check.due("1 more", house.row(0, 4, 6), 1);
        Check.bring(house, 0, 2);
        house.act(2, 1, 1, 0, 4, 0);
        check.due("1 more than another node's", house.row(2, 2001, 6), 2);
        house.tick(3, 1);
        house.act(3, 0, 0, 0, 0, 0);
        check.due("the first one at a time that is not 0", house.row(3, 3001, 6), 0);
        house.act(1, 0, 0, 0, 0, 0);
        for (int i = 2; i <= 250; i++) {
            house.act(1, 1, 1001, 0, i, 0);
        }
        check.due("at one time on and on", house.row(1, 1250, 6), 250);
    }

    private static void order(Check check) {
        AccordHouse byTime = Check.everywhere("L");
        byTime.act(3, 1, 1, 0, 30, 0);
        byTime.act(3, 1, 1, 0, 31, 0);
        byTime.tick(0, 1);
        byTime.act(0, 1, 1, 0, 1, 0);
        Check.meet(byTime, 0, 3);
        check.due("time ahead of count and node", byTime.value(3, 1, 0, 0), 1);
        AccordHouse byCount = Check.everywhere("L");
        byCount.act(3, 1, 1, 0, 30, 0);
        byCount.act(0, 1, 1, 0, 1, 0);
        byCount.act(0, 1, 1, 0, 2, 0);
        Check.meet(byCount, 0, 3);
        check.due("count ahead of node", byCount.value(3, 1, 0, 0), 2);
        check.due("at both", byCount.value(0, 1, 0, 0), 2);
        AccordHouse byNode = Check.everywhere("L");
        for (int node = 3; node >= 0; node--) {
            byNode.act(node, 1, 1, 0, 10 + node, 0);
        }
        check.due("the same time", byNode.row(0, 2, 5), byNode.row(3, 3001, 5));
        check.due("the same count", byNode.row(0, 2, 6), byNode.row(3, 3001, 6));
        for (int node = 1; node < 4; node++) {
            Check.meet(byNode, 0, node);
            check.due("the greatest node", byNode.value(0, 1, 0, 0), 10 + node);
        }
    }

    private static void knew(Check check) {
        AccordHouse house = Check.everywhere("S");
        house.act(0, 2, 1, 0, 1, 0);
        Check.bring(house, 0, 1);
        house.act(1, 2, 1, 0, 11, 0);
        check.due("exactly that one's number", house.row(1, 1001, 10), 2);
        check.dueText("it is known", Check.values(house, 1, 1, 0), "11");
        house.act(0, 2, 1, 0, 2, 0);
        Check.meet(house, 0, 1);
        check.dueText("one less: not known", Check.values(house, 0, 1, 0), "2,11");
        check.dueText("at both", Check.values(house, 1, 1, 0), "2,11");
        house.act(0, 2, 1, 0, 3, 0);
        check.dueText("all are known", Check.values(house, 0, 1, 0), "3");
    }

    private static void good(Check check) {
        AccordHouse house = Check.everywhere("L");
        house.act(0, 1, 1, 0, 5, 0);
        check.due("none is for it", house.row(0, 2, 7), 1);
        house.act(0, 13, 0, 0, 0, 0);
        check.due("an undo", house.row(0, 2, 7), 0);
        house.act(0, 14, 0, 0, 0, 0);
        check.due("a redo", house.row(0, 2, 7), 1);
        house.act(0, 13, 0, 0, 0, 0);
        check.due("an undo again", house.row(0, 2, 7), 0);
        check.due("the undo itself", house.row(0, 3, 7), 1);
        check.due("the redo itself", house.row(0, 4, 7), 1);
        house.send(0, 1, false);
        house.act(0, 14, 0, 0, 0, 0);
        house.deliver(0);
        check.due("by what is applied there", house.row(1, 2, 7), 0);
        check.due("the value there", house.value(1, 1, 0, 0), 0);
        check.due("the value here", house.value(0, 1, 0, 0), 5);
    }

    /** Three nodes change the same parts; the fourth one and the third get this in other orders. */
    private static void whateverOrder(Check check) {
        AccordHouse house = Check.everywhere("LSCBAT", "M");
        int[][] acts = {{1, 1, 0, 5, 0}, {2, 1, 1, 6, 0}, {3, 1, 2, 7, 0}, {4, 1, 3, 8, 0}, {7, 1, 4, 9, 0},
            {9, 1, 5, 'a', 0}, {15, 2, 0, 10, 11}, {11, 1, 0, 2, 0}, {12, 2, 0, 0, 0}, {17, 1, 0, 50, 0}};
        for (int node = 0; node < 3; node++) {
            for (int[] given : acts) {
                int v = given[0] == 11 || given[0] == 15 ? given[3] : given[3] + node;
                house.act(node, given[0], given[1], given[2], v, given[4]);
            }
        }
        Check.bring(house, 2, 3);
        Check.bring(house, 1, 3);
        Check.bring(house, 0, 3);
        Check.bring(house, 0, 2);
        Check.bring(house, 1, 2);
        for (int part = 0; part < 6; part++) {
            check.dueText("part " + part, Check.values(house, 3, 1, part), Check.values(house, 2, 1, part));
        }
        check.dueText("the map", Check.values(house, 3, 2, 0), Check.values(house, 2, 2, 0));
        check.dueText("the text", Check.text(house, 3, 1, 5), "cba");
        check.dueText("several", Check.values(house, 3, 1, 1), "6,7,8");
        for (int what = 0; what <= 4; what++) {
            check.due("what " + what, house.object(3, 1, what), house.object(2, 1, what));
            check.due("of 2: what " + what, house.object(3, 2, what), house.object(2, 2, what));
        }
        check.due("the holder is the first in ORDER", house.object(3, 1, 4), 0);
        check.due("the first one to come was another one", house.row(3, 2001, 9), 2);
    }

    private static void there(Check check) {
        AccordHouse house = Check.everywhere("L");
        check.due("made", house.object(0, 1, 0), 1);
        house.act(0, 12, 1, 0, 0, 0);
        house.act(1, 12, 1, 0, 0, 0);
        Check.meet(house, 0, 1);
        check.due("two drops", house.object(0, 1, 0), 0);
        house.act(0, 13, 0, 0, 0, 0);
        check.due("one of them is good", house.object(0, 1, 0), 0);
        house.act(1, 13, 0, 0, 0, 0);
        check.due("its own one is undone, the other one is not yet", house.object(1, 1, 0), 0);
        Check.meet(house, 0, 1);
        check.due("none is good", house.object(0, 1, 0), 1);
        check.due("nor at the other one", house.object(1, 1, 0), 1);
        house.act(2, 0, 0, 0, 0, 0);
        check.due("not made elsewhere", house.object(0, 2001, 0), -1);
    }

    private static void partsOfDropped(Check check) {
        AccordHouse house = Check.house("LT");
        house.act(0, 1, 1, 0, 5, 0);
        Check.commit(house, 0, 1, 1, "ab");
        house.act(0, 12, 1, 0, 0, 0);
        check.due("L", house.value(0, 1, 0, 0), 5);
        check.dueText("T", Check.text(house, 0, 1, 1), "ab");
        check.due("by", house.by(0, 1, 0, 0), 2);
        check.due("past", house.past(0, 5, 1, 0), 5);
        check.due("was", house.was(0, 5, 1, 1, -1), 2);
    }

    private static void latest(Check check) {
        AccordHouse house = Check.everywhere("LL");
        check.due("0 without", house.value(0, 1, 0, 0), 0);
        house.act(0, 1, 1, 0, Integer.MIN_VALUE, 0);
        check.due("the least", house.value(0, 1, 0, 0), Integer.MIN_VALUE);
        house.act(0, 1, 1, 0, Integer.MAX_VALUE, 0);
        check.due("the greatest", house.value(0, 1, 0, 0), Integer.MAX_VALUE);
        check.due("the other part stays", house.value(0, 1, 1, 0), 0);
        house.act(0, 13, 0, 0, 0, 0);
        check.due("the last good one", house.value(0, 1, 0, 0), Integer.MIN_VALUE);
        house.act(0, 13, 0, 0, 0, 0);
        check.due("none is good", house.value(0, 1, 0, 0), 0);
    }

    private static void several(Check check) {
        AccordHouse house = Check.everywhere("S");
        check.dueText("none", Check.values(house, 0, 1, 0), "");
        for (int node = 0; node < 4; node++) {
            house.tick(node, 10 - node);
            house.act(node, 2, 1, 0, node, 0);
        }
        for (int node = 1; node < 4; node++) {
            Check.bring(house, node, 0);
        }
        check.dueText("at most one of each node, in ORDER", Check.values(house, 0, 1, 0), "3,2,1,0");
        house.act(0, 2, 1, 0, 9, 0);
        check.dueText("one that knew all", Check.values(house, 0, 1, 0), "9");
        house.act(0, 13, 0, 0, 0, 0);
        check.dueText("one that is not good knew none", Check.values(house, 0, 1, 0), "3,2,1,0");
        house.act(0, 13, 0, 0, 0, 0);
        check.dueText("nor does it count itself", Check.values(house, 0, 1, 0), "3,2,1");
    }

    private static void sum(Check check) {
        AccordHouse house = Check.house("C");
        check.due("of none", house.value(0, 1, 0, 0), 0);
        house.act(0, 3, 1, 0, Integer.MAX_VALUE, 0);
        house.act(0, 3, 1, 0, 1, 0);
        check.due("above the greatest", house.value(0, 1, 0, 0), Integer.MIN_VALUE);
        house.act(0, 3, 1, 0, -1, 0);
        check.due("below the least", house.value(0, 1, 0, 0), Integer.MAX_VALUE);
        house.act(0, 3, 1, 0, Integer.MIN_VALUE, 0);
        house.act(0, 3, 1, 0, Integer.MIN_VALUE, 0);
        check.due("two times the least are 0", house.value(0, 1, 0, 0), Integer.MAX_VALUE);
        house.act(0, 13, 0, 0, 0, 0);
        check.due("one of them alone", house.value(0, 1, 0, 0), -1);
        check.due("as it was", house.past(0, 3, 1, 0), Integer.MIN_VALUE);
    }

    private static void shares(Check check) {
        AccordHouse house = Check.everywhere("B");
        check.dueText("of none", Check.values(house, 0, 1, 0), "0,0,0,0,0");
        house.act(3, 4, 1, 0, 1000, 0);
        house.act(3, 6, 1, 0, 1000, 0);
        check.dueText("all is lent", Check.values(house, 3, 1, 0), "1000,0,0,0,1000");
        Check.meet(house, 3, 0);
        house.act(0, 5, 1, 0, 1000, 0);
        check.dueText("all is spent", Check.values(house, 0, 1, 0), "0,0,0,0,0");
        check.due("five", house.size(0, 1, 0), 5);
        check.dueNoSuch("no sixth value", () -> house.value(0, 1, 0, 5));
    }

    private static void set(Check check) {
        AccordHouse house = Check.everywhere("AA");
        check.dueText("none", Check.values(house, 0, 1, 0), "");
        for (int v = 63; v >= 0; v--) {
            house.act(0, 7, 1, 0, v, 0);
        }
        check.due("all 64", house.size(0, 1, 0), 64);
        for (int v = 0; v < 64; v++) {
            check.due("the least first", house.value(0, 1, 0, v), v);
        }
        check.due("the other part", house.size(0, 1, 1), 0);
        Check.meet(house, 0, 1);
        house.act(1, 8, 1, 0, 5, 0);
        house.act(0, 7, 1, 0, 5, 0);
        Check.meet(house, 0, 1);
        check.due("an enter that the leave did not know", house.value(1, 1, 0, 5), 5);
        check.due("by it", house.by(1, 1, 0, 5), 66);
        house.act(1, 8, 1, 0, 5, 0);
        check.due("a leave that knew it", house.size(1, 1, 0), 63);
        check.due("of the same v alone", house.value(1, 1, 0, 5), 6);
        house.act(1, 13, 0, 0, 0, 0);
        check.due("the leave is not good", house.size(1, 1, 0), 64);
        AccordHouse others = Check.everywhere("A");
        for (int node = 1; node < 4; node++) {
            check.due("a node's first row", others.act(node, 7, 1, 0, 10 - node, 0), 1000 * node + 1);
            others.act(node, 7, 1, 0, 9 - node, 0);
            Check.bring(others, node, 0);
        }
        check.dueText("of all nodes", Check.values(others, 0, 1, 0), "6,7,8,9");
        check.due("by the last one in ORDER", others.by(0, 1, 0, 1), 2002);
        others.act(0, 8, 1, 0, 8, 0);
        others.act(0, 8, 1, 0, 6, 0);
        check.dueText("without the two that left", Check.values(others, 0, 1, 0), "7,9");
    }

    private static void text(Check check) {
        AccordHouse house = Check.everywhere("TT");
        check.dueText("none", Check.text(house, 0, 1, 0), "");
        house.act(0, 9, 1, 0, 'a', 0);
        house.act(0, 9, 1, 0, 'b', 0);
        house.act(0, 9, 1, 0, 'c', 0);
        check.dueText("the last in ORDER first", Check.text(house, 0, 1, 0), "cba");
        house.act(3, 9, 1, 0, 'x', 0);
        house.act(3, 9, 1, 0, 'y', 1);
        house.act(3, 9, 1, 0, 'z', 1);
        Check.meet(house, 0, 3);
        check.dueText("each followed by what is behind it", Check.text(house, 0, 1, 0), "cbxzya");
        check.dueText("at both", Check.text(house, 3, 1, 0), "cbxzya");
        check.dueText("the other part", Check.text(house, 0, 1, 1), "");
        firstAndLastRows(check);
    }

    /** The very first row of node 0 and the very last one of node 3 are letters. */
    private static void firstAndLastRows(Check check) {
        AccordHouse house = new AccordHouse();
        Check.kind(house, "LT");
        house.act(1, 0, 0, 0, 0, 0);
        house.join(0, 1);
        check.due("the first row of node 0", house.act(0, 9, 1001, 1, 'a', 0), 1);
        check.dueText("it stands", Check.text(house, 0, 1001, 1), "a");
        house.cursor(0, 1001, 1, 1);
        check.due("a cursor behind it", house.where(0, 0, 3), 1);
        house.join(3, 0);
        for (int i = 1; i < 250; i++) {
            house.act(3, 1, 1001, 0, i, 0);
        }
        check.due("the last row of node 3", house.act(3, 9, 1001, 1, 'z', 1), 3250);
        check.dueText("it stands behind the first one", Check.text(house, 3, 1001, 1), "az");
        house.cursor(3, 1001, 1, 2);
        check.due("a cursor behind both", house.where(3, 3, 3), 2);
        check.due("as it was", house.was(3, 252, 1001, 1, 1), 'z');
        check.due("as it was ahead of it", house.was(3, 251, 1001, 1, -1), 1);
    }

    private static void standing(Check check) {
        AccordHouse house = Check.everywhere("T");
        Check.commit(house, 0, 1, 0, "abc");
        Check.meet(house, 0, 1);
        house.act(0, 10, 1, 0, 0, 1);
        house.act(1, 10, 1, 0, 0, 1);
        Check.meet(house, 0, 1);
        check.dueText("two erases", Check.text(house, 0, 1, 0), "ac");
        house.act(0, 13, 0, 0, 0, 0);
        check.dueText("one good erase", Check.text(house, 0, 1, 0), "ac");
        house.act(1, 13, 0, 0, 0, 0);
        Check.meet(house, 0, 1);
        check.dueText("no good erase", Check.text(house, 0, 1, 0), "abc");
        house.act(0, 13, 0, 0, 0, 0);
        house.act(0, 13, 0, 0, 0, 0);
        house.act(0, 13, 0, 0, 0, 0);
        check.dueText("no good insert", Check.text(house, 0, 1, 0), "");
        house.act(0, 14, 0, 0, 0, 0);
        house.act(0, 14, 0, 0, 0, 0);
        check.dueText("two good inserts", Check.text(house, 0, 1, 0), "ab");
    }

    private static void map(Check check) {
        AccordHouse house = Check.everywhere("M");
        check.dueText("none", Check.values(house, 0, 1, 0), "");
        for (int key = 63; key >= 0; key--) {
            house.act(0, 15, 1, 0, key, 100 + key);
        }
        check.due("all 64", house.size(0, 1, 0), 64);
        for (int key = 0; key < 64; key++) {
            check.due("the least first", house.value(0, 1, 0, key), key);
            check.due("what it is bound to", house.bound(0, 1, 0, key), 100 + key);
        }
        Check.meet(house, 0, 1);
        house.act(1, 15, 1, 0, 5, 7);
        house.act(0, 16, 1, 0, 5, 0);
        Check.meet(house, 0, 1);
        check.due("the same stamp but for the node: the bind is last", house.bound(0, 1, 0, 5), 7);
        house.act(0, 16, 1, 0, 5, 0);
        check.due("the unbind is last", house.size(0, 1, 0), 63);
        house.act(0, 13, 0, 0, 0, 0);
        check.due("it is not good", house.bound(0, 1, 0, 5), 7);
    }

    private static void claimHeld(Check check) {
        AccordHouse house = Check.everywhere("L");
        house.act(0, 17, 1, 0, 10, 0);
        house.tick(1, 9);
        house.act(1, 17, 1, 0, 50, 0);
        house.tick(2, 10);
        house.act(2, 17, 1, 0, 50, 0);
        Check.meet(house, 0, 1);
        Check.meet(house, 0, 2);
        check.due("9 is held by the first, 10 by nobody", house.object(0, 1, 4), 2);
        check.due("NOW", house.node(0, 9), 10);
        house.tick(0, 60);
        check.due("it is over", house.object(0, 1, 4), -1);
        AccordHouse own = Check.everywhere("L");
        own.act(0, 17, 1, 0, 10, 0);
        own.tick(0, 9);
        own.act(0, 17, 1, 0, 10, 0);
        own.tick(0, 9);
        check.due("the holder itself goes on", own.object(0, 1, 4), 0);
        own.tick(0, 1);
        check.due("till its time and v", own.object(0, 1, 4), -1);
    }

    private static void claimLonger(Check check) {
        AccordHouse house = Check.house("L");
        house.act(0, 17, 1, 0, 10, 0);
        house.tick(0, 5);
        house.act(0, 17, 1, 0, 4, 0);
        house.tick(0, 4);
        check.due("9 is below 10", house.object(0, 1, 4), 0);
        house.tick(0, 1);
        check.due("10 is not", house.object(0, 1, 4), -1);
        house.act(0, 17, 1, 0, 2, 0);
        house.tick(0, 1);
        check.due("11 is below 12", house.object(0, 1, 4), 0);
        house.act(0, 17, 1, 0, 100, 0);
        house.tick(0, 99);
        check.due("110 is below 111", house.object(0, 1, 4), 0);
        house.tick(0, 1);
        check.due("111 is not", house.object(0, 1, 4), -1);
    }

    private static void release(Check check) {
        AccordHouse house = Check.everywhere("L");
        house.act(0, 17, 1, 0, 10, 0);
        house.tick(0, 3);
        house.act(0, 18, 1, 0, 0, 0);
        check.due("it holds it no longer at that time", house.object(0, 1, 4), -1);
        house.act(1, 17, 1, 0, 5, 0);
        house.tick(1, 4);
        house.act(1, 18, 1, 0, 0, 0);
        Check.meet(house, 0, 1);
        check.due("a claim that was nothing", house.object(0, 1, 4), -1);
        house.act(0, 17, 1, 0, 10, 0);
        check.due("it is held", house.object(0, 1, 4), 0);
        AccordHouse other = Check.everywhere("L");
        other.act(0, 17, 1, 0, 50, 0);
        other.act(1, 17, 1, 0, 50, 0);
        other.tick(1, 5);
        other.act(1, 18, 1, 0, 0, 0);
        Check.meet(other, 0, 1);
        check.due("a release of another node does nothing", other.object(1, 1, 4), 0);
    }

    private static void timesBelow(Check check) {
        AccordHouse house = Check.house("L");
        house.act(0, 17, 1, 0, 1, 0);
        check.due("0 is below 1", house.object(0, 1, 4), 0);
        house.tick(0, 1);
        check.due("1 is not", house.object(0, 1, 4), -1);
    }

    private static void now(Check check) {
        AccordHouse house = Check.house("L");
        house.tick(0, 7);
        check.due("by the watch", house.node(0, 9), 7);
        house.act(0, 17, 1, 0, 2, 0);
        Check.bring(house, 0, 1);
        check.due("by LAST", house.node(1, 9), 7);
        check.due("its watch", house.node(1, 0), 0);
        check.due("held NOW", house.object(1, 1, 4), 0);
        house.tick(1, 8);
        check.due("by the watch again", house.node(1, 9), 8);
        check.due("held NOW", house.object(1, 1, 4), 0);
        house.tick(1, 1);
        check.due("not held NOW", house.object(1, 1, 4), -1);
        check.due("held at the other one's NOW", house.object(0, 1, 4), 0);
    }

    private static void noParent(Check check) {
        AccordHouse house = Check.house("L", "L");
        check.due("none at first", house.object(0, 1, 2), -1);
        check.due("-1 of one that has none", house.act(0, 11, 1, 0, -1, 0), 3);
        check.due("none still", house.object(0, 1, 2), -1);
        house.act(0, 11, 1, 0, 2, 0);
        check.due("one", house.object(0, 1, 2), 2);
        house.act(0, 11, 1, 0, -1, 0);
        check.due("none again", house.object(0, 1, 2), -1);
    }

    private static void rings(Check check) {
        AccordHouse house = new AccordHouse();
        Check.kind(house, "L");
        int[] objects = new int[48];
        for (int i = 0; i < 48; i++) {
            int node = i / 12;
            if (node > 0 && i % 12 == 0) {
                house.join(node, node - 1);
            }
            objects[i] = house.act(node, 0, 0, 0, 0, 0);
        }
        house.act(3, 11, objects[0], 0, objects[0], 0);
        check.due("itself", house.object(3, objects[0], 2), -1);
        for (int i = 0; i < 47; i++) {
            house.act(3, 11, objects[i], 0, objects[i + 1], 0);
            check.due("parent", house.object(3, objects[i], 2), objects[i + 1]);
        }
        house.act(3, 11, objects[1], 0, objects[0], 0);
        check.due("a parent", house.object(3, objects[1], 2), objects[2]);
        house.act(3, 11, objects[2], 0, objects[0], 0);
        check.due("a parent's parent", house.object(3, objects[2], 2), objects[3]);
        house.act(3, 11, objects[47], 0, objects[0], 0);
        check.due("the last of all 48", house.object(3, objects[47], 2), -1);
        house.act(3, 11, objects[46], 0, -1, 0);
        house.act(3, 11, objects[47], 0, objects[0], 0);
        check.due("no ring then", house.object(3, objects[47], 2), objects[0]);
        house.act(3, 11, objects[46], 0, objects[47], 0);
        check.due("a ring of all 48", house.object(3, objects[46], 2), -1);
    }

    private static void stable(Check check) {
        AccordHouse house = Check.house("L");
        check.due("of none the others know", house.row(0, 1, 8), 0);
        house.join(1, 0);
        house.join(2, 0);
        house.join(3, 0);
        check.due("they know, but that is not known", house.row(0, 1, 8), 0);
        house.send(1, 0, false);
        house.deliver(0);
        house.send(2, 0, true);
        house.deliver(0);
        house.lose(0);
        check.due("of one it is not known yet", house.row(0, 1, 8), 0);
        check.due("none is stable", house.node(0, 7), 0);
        house.send(3, 0, false);
        house.deliver(0);
        check.due("of all three it is known", house.row(0, 1, 8), 1);
        check.due("one is stable", house.node(0, 7), 1);
        house.act(0, 1, 1, 0, 5, 0);
        check.due("not the next one", house.row(0, 2, 8), 0);
        check.due("one is stable", house.node(0, 7), 1);
        for (int node = 0; node < 4; node++) {
            for (int last = 0; last < 4; last++) {
                if (last != node) {
                    stableWithout(check, node, last);
                }
            }
        }
    }

    /** A node's row that all others have but one, and then that one too. */
    private static void stableWithout(Check check, int node, int last) {
        AccordHouse house = new AccordHouse();
        Check.kind(house, "L");
        int name = house.act(node, 0, 0, 0, 0, 0);
        for (int m = 0; m < 4; m++) {
            if (m != node && m != last) {
                Check.meet(house, node, m);
            }
        }
        check.due("node " + last + " is missing", house.row(node, name, 8), 0);
        Check.meet(house, node, last);
        check.due("none is missing", house.row(node, name, 8), 1);
        check.due("one row", house.node(node, 7), 1);
        check.due("not so there", house.row(last, name, 8), 0);
    }

    private TermsEdges() {
    }
}
