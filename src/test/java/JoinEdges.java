/** Promise 19: join; JOINED. */
final class JoinEdges {
    static void add(Edges edges) {
        edges.edge(0, "JOINED is a NODE to another one that has APPLIED all that it has", JoinEdges::hasAll);
        edges.edge(0, "it has APPLIED then what that one has, in the same order", JoinEdges::sameOrder);
        edges.edge(0, "its SEEN is raised to that one's SEEN (but of itself) and KNOWN (for that one)", JoinEdges::seen);
        edges.edge(0, "LAST to that one's", JoinEdges::last);
        edges.edge(0, "SENT stays", JoinEdges::sentStays);
        edges.edge(0, "what WAITED and is APPLIED now is gone", JoinEdges::waitsGo);
        edges.edge(0, "no NEWS and entries of LISTS (which stand on) come of it; those that are there stay.",
            JoinEdges::noNews);
        edges.edge(19, "A NODE is JOINED to another one: true", JoinEdges::joined);
        edges.edge(19, "false if there are no such NODES, they are the same one", JoinEdges::noNodes);
        edges.edge(19, "that one has not all that it has", JoinEdges::hasNotAll);
        edges.edge(19, "or 40 were JOINED.", JoinEdges::forty);
    }

    private static AccordHouse house() {
        return Check.house("LT");
    }

    private static void hasAll(Check check) {
        AccordHouse house = house();
        check.due("nothing is all of nothing", house.join(2, 3), true);
        check.due("a node without rows", house.join(1, 0), true);
        check.due("both have the same", house.join(0, 1), true);
        check.due("one row", house.node(0, 1), 1);
        house.act(1, 1, 1, 0, 5, 0);
        check.due("the other one has one more", house.join(0, 1), true);
        check.due("its value", house.value(0, 1, 0, 0), 5);
    }

    private static void sameOrder(Check check) {
        AccordHouse house = house();
        house.act(2, 0, 0, 0, 0, 0);
        Check.bring(house, 0, 1);
        Check.bring(house, 2, 1);
        Check.bring(house, 1, 2);
        check.due("row 1 is the second one at 2", house.row(2, 1, 9), 1);
        check.due("but the first one at 1", house.row(1, 1, 9), 0);
        house.join(2, 1);
        check.due("and now at 2", house.row(2, 1, 9), 0);
        check.due("with its own one behind", house.row(2, 2001, 9), 1);
        house.act(2, 1, 2001, 0, 5, 0);
        check.due("a later one is the third", house.row(2, 2002, 9), 2);
        check.due("past at 2", house.past(2, 2, 2001, 0), 0);
        check.due("past at 3", house.past(2, 3, 2001, 0), 5);
        house.act(2, 13, 0, 0, 0, 0);
        house.act(2, 1, 2001, 0, 6, 0);
        house.join(3, 2);
        check.due("what is undone", house.row(3, 2002, 7), 0);
        check.due("the value", house.value(3, 2001, 0, 0), 6);
        check.dueAll("past at", k -> house.past(3, k, 2001, 0), 0, 0, 0, 5, 0, 6);
        check.due("a redo", house.act(2, 14, 0, 0, 0, 0), 2005);
    }

    private static void seen(Check check) {
        AccordHouse house = house();
        Check.bring(house, 0, 1);
        Check.bring(house, 1, 2);
        Check.bring(house, 2, 1);
        house.act(1, 1, 1, 0, 5, 0);
        Check.bring(house, 3, 1);
        house.join(3, 1);
        check.dueAll("of 0, as 1 knows it", q -> house.node(3, 20 + q), 1, 0, 0, 0);
        check.dueAll("of 1, what it has", q -> house.node(3, 24 + q), 1, 1, 0, 0);
        check.dueAll("of 2, as 1 knows it", q -> house.node(3, 28 + q), 1, 0, 0, 0);
        check.dueAll("of itself known", q -> house.node(3, 32 + q), 1, 1, 0, 0);
        check.dueAll("of 3, as 1 knows it still", q -> house.node(1, 32 + q), 0, 0, 0, 0);
        Check.bring(house, 3, 2);
        Check.bring(house, 2, 3);
        check.dueAll("of 2", q -> house.node(3, 28 + q), 1, 1, 0, 0);
        house.join(3, 1);
        check.dueAll("what was more stays", q -> house.node(3, 28 + q), 1, 1, 0, 0);
        for (int node = 0; node < 4; node++) {
            seenOfAll(check, node, (node + 1) % 4);
        }
    }

    /** One node hears of all others; another one, which heard of none, is joined to it. */
    private static void seenOfAll(Check check, int node, int other) {
        AccordHouse house = house();
        for (int m = 0; m < 4; m++) {
            house.act(m, 0, 0, 0, 0, 0);
        }
        for (int round = 0; round < 2; round++) {
            for (int m = 0; m < 4; m++) {
                if (m != other) {
                    Check.bring(house, m, other);
                }
                if (m != other && m != node) {
                    Check.bring(house, other, m);
                }
            }
        }
        for (int m = 0; m < 4; m++) {
            check.dueText("nothing is seen of " + m, m == node ? "0000" : digits(seen(house, node, m)), "0000");
        }
        check.due("join " + node + " to " + other, house.join(node, other), true);
        for (int m = 0; m < 4; m++) {
            int of = m;
            int[] due = m == node ? known(house, node) : seen(house, other, m);
            check.dueAll("seen of " + m, q -> house.node(node, 20 + 4 * of + q), due);
        }
        check.dueAll("known", q -> house.node(node, 10 + q), 2, 1, 1, 1);
    }

    private static String digits(int[] numbers) {
        StringBuilder text = new StringBuilder();
        for (int number : numbers) {
            text.append(number);
        }
        return text.toString();
    }

    private static int[] known(AccordHouse house, int node) {
        return new int[] {house.node(node, 10), house.node(node, 11), house.node(node, 12), house.node(node, 13)};
    }

    private static int[] seen(AccordHouse house, int node, int m) {
        int[] seen = new int[4];
        for (int q = 0; q < 4; q++) {
            seen[q] = house.node(node, 20 + 4 * m + q);
        }
        return seen;
    }

    private static void last(Check check) {
        AccordHouse house = house();
        house.tick(0, 8);
        house.act(0, 1, 1, 0, 5, 0);
        house.tick(1, 3);
        house.join(1, 0);
        check.due("time", house.node(1, 5), 8);
        check.due("count", house.node(1, 6), 0);
        check.due("its watch stays", house.node(1, 0), 3);
        check.due("NOW", house.node(1, 9), 8);
        house.act(1, 1, 1, 0, 6, 0);
        check.due("the time of its next row", house.row(1, 1001, 5), 8);
        check.due("the count of its next row", house.row(1, 1001, 6), 1);
    }

    private static void sentStays(Check check) {
        AccordHouse house = house();
        Check.bring(house, 0, 1);
        house.act(1, 1, 1, 0, 5, 0);
        Check.bring(house, 1, 2);
        house.join(0, 1);
        check.dueAll("sent to 1", q -> house.node(0, 44 + q), 1, 0, 0, 0);
        check.dueAll("sent to 2, not as by 1", q -> house.node(0, 48 + q), 0, 0, 0, 0);
    }

    private static void waitsGo(Check check) {
        AccordHouse house = house();
        for (int i = 0; i < 8; i++) {
            house.act(0, 1, 1, 0, i, 0);
        }
        house.send(0, 1, false);
        house.send(0, 1, false);
        house.deliver(1);
        check.due("one waits", house.node(1, 2), 1);
        house.join(1, 0);
        check.due("none waits", house.node(1, 2), 0);
        check.due("nine are applied", house.node(1, 1), 9);
        check.due("the frame brings nothing", house.deliver(0), 0);
        AccordHouse other = house();
        other.join(2, 0);
        for (int i = 0; i < 8; i++) {
            other.act(0, 1, 1, 0, i, 0);
        }
        other.send(0, 2, false);
        other.send(0, 2, false);
        other.deliver(1);
        other.join(2, 1);
        check.due("not joined, as that one has less", other.node(2, 2), 1);
        other.join(1, 2);
        other.join(2, 1);
        check.due("what is not applied waits on", other.node(2, 2), 1);
    }

    private static void noNews(Check check) {
        AccordHouse house = house();
        house.stand(1, 0, 0, 0, 0, 5);
        house.act(1, 0, 0, 0, 0, 0);
        check.due("one of its own", house.node(1, 3), 1);
        check.due("one entry of its own", house.node(1, 8), 1);
        Check.bring(house, 1, 0);
        house.act(0, 1, 1001, 0, 9, 0);
        house.act(0, 1, 1, 0, 3, 0);
        check.due("join", house.join(1, 0), true);
        check.due("no news come", house.node(1, 3), 1);
        check.due("no entries come", house.node(1, 8), 1);
        check.dueAll("the news stay", what -> house.news(1, 0, what), 1001, 1001, 7);
        check.dueAll("the entry stays", what -> house.turned(1, 0, what), 1001, 0, 1001, 1);
        check.due("the list stands on", house.listed(1, 0, -1), 1);
        check.due("with what is there now", house.listed(1, 0, 0), 1);
        house.act(1, 1, 1, 0, 6, 0);
        check.dueAll("and has entries again", what -> house.turned(1, 1, what), 1002, 0, 1, 0);
    }

    private static void joined(Check check) {
        AccordHouse house = house();
        house.act(0, 1, 1, 0, 5, 0);
        check.due("join", house.join(3, 0), true);
        check.due("rows", house.node(3, 1), 2);
        check.due("the value", house.value(3, 1, 0, 0), 5);
        check.due("again", house.join(3, 0), true);
        check.due("as many rows", house.node(3, 1), 2);
        check.due("the other way", house.join(0, 3), true);
    }

    private static void noNodes(Check check) {
        AccordHouse house = house();
        for (int node : Edges.NO_NODES) {
            check.due("node", house.join(node, 0), false);
            check.due("other", house.join(0, node), false);
            check.due("both", house.join(node, node), false);
        }
        for (int node = 0; node < 4; node++) {
            check.due("the same one", house.join(node, node), false);
        }
    }

    private static void hasNotAll(Check check) {
        AccordHouse house = house();
        check.due("it has one row less", house.join(0, 1), false);
        house.join(1, 0);
        house.act(0, 1, 1, 0, 5, 0);
        house.act(1, 1, 1, 0, 6, 0);
        check.due("each has one that the other has not", house.join(0, 1), false);
        check.due("the other way neither", house.join(1, 0), false);
        check.due("nothing came", house.node(0, 1) + house.node(1, 1), 4);
        Check.bring(house, 1, 0);
        check.due("it has all now", house.join(1, 0), true);
        for (int node = 1; node < 4; node++) {
            AccordHouse other = new AccordHouse();
            Check.kind(other, "L");
            other.act(node, 0, 0, 0, 0, 0);
            check.due("the one row is node " + node + "'s", other.join(node, 0), false);
        }
    }

    private static void forty(Check check) {
        AccordHouse house = house();
        house.act(3, 0, 0, 0, 0, 0);
        for (int i = 1; i <= 40; i++) {
            check.due("one that is refused does not count", house.join(3, 0), false);
            check.due("join " + i, house.join(1 + i % 2, 0), true);
        }
        check.due("a 41st one", house.join(1, 0), false);
        check.due("of any node", house.join(2, 1), false);
        house.act(0, 1, 1, 0, 5, 0);
        check.due("nor later", house.join(1, 0), false);
        check.due("nothing came", house.node(1, 1), 1);
    }

    private JoinEdges() {
    }
}
