/** Promise 19: join. */
public final class JoinTest {
    private static final Check CHECK = new Check();

    public static void main(String[] args) {
        refused();
        takesAll();
        seenIsRaised();
        waitsGo();
        waitsStay();
        fortyTimes();
        actsGoOn();
        firstRowOfAll();
        CHECK.end();
    }

    private static AccordHouse house() {
        AccordHouse house = new AccordHouse();
        Check.kind(house, "LT");
        house.act(0, 0, 0, 0, 0, 0);
        return house;
    }

    private static void refused() {
        AccordHouse house = house();
        int[][] wrong = {{-1, 0}, {4, 0}, {0, -1}, {0, 4}, {0, 0}, {2, 2}};
        for (int[] given : wrong) {
            CHECK.due("join", house.join(given[0], given[1]), false);
        }
        CHECK.due("the other has not all", house.join(0, 1), false);
        CHECK.due("it has", house.join(1, 0), true);
        CHECK.due("both have the same", house.join(0, 1), true);
        house.act(1, 1, 1, 0, 5, 0);
        house.act(0, 1, 1, 0, 6, 0);
        CHECK.due("neither has all", house.join(0, 1), false);
        CHECK.due("neither has all", house.join(1, 0), false);
        CHECK.due("nothing came", house.node(0, 1), 2);
    }

    private static void takesAll() {
        AccordHouse house = house();
        house.tick(2, 7);
        house.act(2, 0, 0, 0, 0, 0);
        Check.commit(house, 2, 2001, 1, "xy");
        Check.bring(house, 2, 0);
        house.act(0, 1, 1, 0, 5, 0);
        house.act(0, 1, 1, 0, 6, 0);
        house.act(0, 13, 0, 0, 0, 0);
        house.stand(1, 0, 0, 0, 5, 5);
        CHECK.due("join", house.join(1, 0), true);
        for (int what = 1; what <= 13; what++) {
            boolean own = what == 3 || what == 7 || what == 8;
            CHECK.due("node(1, " + what + ")", house.node(1, what), own ? 0 : house.node(0, what));
        }
        CHECK.due("its watch stays", house.node(1, 0), 0);
        int[] names = {1, 2001, 2002, 2003, 2, 3, 4};
        for (int i = 0; i < names.length; i++) {
            CHECK.due("place of " + names[i], house.row(1, names[i], 9), i);
            CHECK.due("good", house.row(1, names[i], 7), names[i] == 3 ? 0 : 1);
        }
        CHECK.due("value", house.value(1, 1, 0, 0), 5);
        CHECK.dueText("text", Check.text(house, 1, 2001, 1), "xy");
        CHECK.due("the list stands", house.listed(1, 0, 0), 1);
        CHECK.due("no news", house.news(1, 0, 0), -1);
        CHECK.due("as it was", house.past(1, 6, 1, 0), 6);
        CHECK.due("with what was undone then", house.past(1, 7, 1, 0), 5);
    }

    private static void seenIsRaised() {
        AccordHouse house = house();
        Check.bring(house, 0, 1);
        Check.bring(house, 1, 2);
        Check.bring(house, 2, 1);
        house.act(1, 1, 1, 0, 5, 0);
        CHECK.due("1 knows of 2", house.node(1, 20 + 8), 1);
        CHECK.due("1 knows of 0", house.node(1, 20), 1);
        CHECK.due("join", house.join(3, 1), true);
        CHECK.due("3 knows of 2", house.node(3, 20 + 8), 1);
        CHECK.due("3 knows of 0", house.node(3, 20), 1);
        CHECK.due("3 knows of 1", house.node(3, 20 + 4), 1);
        CHECK.due("3 knows of 1 its own", house.node(3, 20 + 5), 1);
        CHECK.due("3 knows itself", house.node(3, 20 + 12), 1);
        CHECK.due("3 knows itself of 1", house.node(3, 20 + 13), 1);
        CHECK.due("1 knows nothing of 3", house.node(1, 20 + 12), 0);
        CHECK.due("stable at 3: row 1", house.row(3, 1, 8), 1);
        CHECK.due("one is stable", house.node(3, 7), 1);
        CHECK.due("none at 1", house.node(1, 7), 0);
        CHECK.due("nothing was sent", house.node(3, 40 + 4), 0);
        Check.bring(house, 3, 1);
        CHECK.due("3 sends to 1 nothing that it knows", house.node(3, 40 + 4), 0);
        Check.bring(house, 3, 0);
        CHECK.due("to 0 the one row", house.node(3, 40 + 1), 1);
        house.join(0, 3);
        CHECK.due("sent stays", house.node(0, 40 + 4), 1);
    }

    private static void waitsGo() {
        AccordHouse house = house();
        for (int i = 0; i < 20; i++) {
            house.act(0, 1, 1, 0, i, 0);
        }
        for (int i = 0; i < 3; i++) {
            house.send(0, 1, false);
        }
        house.deliver(1);
        house.deliver(1);
        CHECK.due("thirteen wait", house.node(1, 2), 13);
        CHECK.due("join", house.join(1, 0), true);
        CHECK.due("none waits", house.node(1, 2), 0);
        CHECK.due("nothing new", house.deliver(0), 0);
        CHECK.due("no news", house.node(1, 3), 0);
    }

    /** What is ready by a join is applied with the next row that is. */
    private static void waitsStay() {
        AccordHouse house = house();
        house.join(2, 0);
        house.act(0, 1, 1, 0, 4, 0);
        Check.bring(house, 0, 2);
        house.act(2, 1, 1, 0, 5, 0);
        house.act(0, 1, 1, 0, 6, 0);
        house.send(2, 1, false);
        house.send(2, 1, false);
        house.bend(0, 0, 1);
        house.deliver(0);
        house.lose(0);
        house.act(2, 1, 1, 0, 7, 0);
        house.send(2, 1, false);
        CHECK.due("it waits", house.deliver(0), 0);
        house.join(1, 0);
        CHECK.due("it waits on", house.node(1, 2), 1);
        house.send(1, 2, true);
        house.deliver(0);
        CHECK.due("the missing one, and that which waits", house.deliver(0), 2);
        CHECK.due("none waits", house.node(1, 2), 0);
    }

    private static void fortyTimes() {
        AccordHouse house = house();
        for (int i = 0; i < 40; i++) {
            CHECK.due("join " + i, house.join(i % 2 == 0 ? 1 : 2, i % 2 == 0 ? 0 : 1), true);
            CHECK.due("one that is refused does not count", house.join(0, 3), false);
        }
        CHECK.due("join 41", house.join(1, 0), false);
        CHECK.due("of any node", house.join(3, 0), false);
    }

    /** The very first row of node 0 may be a change of another one's object. */
    private static void firstRowOfAll() {
        AccordHouse house = new AccordHouse();
        Check.kind(house, "LC");
        house.act(1, 0, 0, 0, 0, 0);
        house.act(1, 3, 1001, 1, 7, 0);
        Check.bring(house, 1, 0);
        house.act(0, 3, 1001, 1, 1, 0);
        house.act(0, 3, 1001, 1, 2, 0);
        CHECK.due("join", house.join(2, 0), true);
        CHECK.due("the sum", house.value(2, 1001, 1, 0), 10);
        house.act(2, 3, 1001, 1, 4, 0);
        CHECK.due("and on", house.value(2, 1001, 1, 0), 14);
        CHECK.due("as it was", house.past(2, 3, 1001, 1), 8);
    }

    private static void actsGoOn() {
        AccordHouse house = house();
        house.tick(0, 9);
        house.act(0, 1, 1, 0, 5, 0);
        house.join(3, 0);
        CHECK.due("act", house.act(3, 1, 1, 0, 6, 0), 3001);
        CHECK.due("behind LAST", house.row(3, 3001, 5), 9);
        CHECK.due("count", house.row(3, 3001, 6), 1);
        CHECK.due("its vector", house.row(3, 3001, 10), 2);
        CHECK.due("not at the other one", house.row(0, 3001, 0), -1);
        CHECK.due("the other's value", house.value(0, 1, 0, 0), 5);
        house.act(0, 1, 1, 0, 7, 0);
        CHECK.due("nor back", house.row(3, 3, 0), -1);
    }
}
