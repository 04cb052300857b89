/** Promises 10, 11, 12 and 25, 26, 27: stand, listed, turned, list, count, ranked. */
public final class ListsTest {
    private static final Check CHECK = new Check();

    public static void main(String[] args) {
        stands();
        standRefused();
        listedRefused();
        turns();
        turnsByAnother();
        turnsAreLimited();
        lists();
        counts();
        ranks();
        CHECK.end();
    }

    /** Kinds LCL and L; objects 1, 2, 3 of the first one and 4 of the second. */
    private static AccordHouse house() {
        AccordHouse house = new AccordHouse();
        Check.kind(house, "LCL");
        Check.kind(house, "L");
        for (int i = 0; i < 3; i++) {
            house.act(0, 0, 0, 0, 0, 0);
        }
        house.act(0, 0, 0, 0, 1, 0);
        return house;
    }

    private static void stands() {
        AccordHouse house = house();
        CHECK.due("none stands", house.listed(0, 0, -1), 0);
        CHECK.due("first of none", house.listed(0, 0, 0), -1);
        CHECK.due("stand", house.stand(0, 0, 0, 0, 0, 5), true);
        CHECK.due("all have 0", house.listed(0, 0, -1), 3);
        CHECK.due("first", house.listed(0, 0, 0), 1);
        CHECK.due("last", house.listed(0, 0, 2), 3);
        CHECK.due("behind the last", house.listed(0, 0, 3), -1);
        CHECK.due("no entries by standing", house.node(0, 8), 0);
        house.act(0, 1, 2, 0, 6, 0);
        CHECK.due("one went", house.listed(0, 0, -1), 2);
        CHECK.due("the others stay", house.listed(0, 0, 1), 3);
        house.act(0, 1, 2, 0, 5, 0);
        CHECK.due("most counts", house.listed(0, 0, 1), 2);
        CHECK.due("another in its place", house.stand(0, 0, 0, 2, 1, 5), true);
        CHECK.due("none is in it", house.listed(0, 0, -1), 0);
        house.act(0, 1, 3, 2, 1, 0);
        CHECK.due("least counts", house.listed(0, 0, 0), 3);
        house.act(0, 12, 3, 0, 0, 0);
        CHECK.due("not there any more", house.listed(0, 0, -1), 0);
        CHECK.due("the last list", house.stand(0, 3, 1, 0, 0, 0), true);
        CHECK.due("its object", house.listed(0, 3, 0), 4);
        CHECK.due("of one node alone", house.listed(1, 3, -1), 0);
        CHECK.due("an empty one", house.stand(0, 2, 0, 0, 1, 0), true);
        CHECK.due("none", house.listed(0, 2, -1), 0);
        CHECK.due("all numbers", house.stand(0, 2, 0, 0, Integer.MIN_VALUE, Integer.MAX_VALUE), true);
        CHECK.due("two are there", house.listed(0, 2, -1), 2);
    }

    private static void standRefused() {
        AccordHouse house = house();
        house.stand(0, 0, 0, 0, 0, 0);
        int[][] wrong = {{-1, 0, 0, 0}, {4, 0, 0, 0}, {0, -1, 0, 0}, {0, 4, 0, 0}, {0, 0, -1, 0}, {0, 0, 2, 0},
            {0, 0, 0, -1}, {0, 0, 0, 3}, {0, 0, 1, 1}, {0, 0, 0, 1}};
        for (int[] given : wrong) {
            CHECK.due("stand", house.stand(given[0], given[1], given[2], given[3], 7, 9), false);
            CHECK.due("the old one stands", house.listed(0, 0, -1), 3);
        }
    }

    private static void listedRefused() {
        AccordHouse house = house();
        house.stand(0, 0, 0, 0, 0, 0);
        CHECK.due("node -1", house.listed(-1, 0, -1), -1);
        CHECK.due("node 4", house.listed(4, 0, -1), -1);
        CHECK.due("list -1", house.listed(0, -1, -1), -1);
        CHECK.due("list 4", house.listed(0, 4, -1), -1);
        CHECK.due("i -2", house.listed(0, 0, -2), -1);
        CHECK.due("the least i", house.listed(0, 0, Integer.MIN_VALUE), -1);
    }

    private static void turns() {
        AccordHouse house = house();
        house.stand(0, 2, 0, 0, 1, 9);
        house.stand(0, 1, 0, 0, 5, 20);
        CHECK.due("set", house.act(0, 1, 2, 0, 7, 0), 5);
        CHECK.due("both lists", house.node(0, 8), 2);
        dueTurn(house, 0, 0, 5, 1, 2, 1);
        dueTurn(house, 0, 1, 5, 2, 2, 1);
        house.act(0, 1, 2, 0, 10, 0);
        dueTurn(house, 0, 2, 6, 2, 2, 0);
        CHECK.due("the other list keeps it", house.node(0, 8), 3);
        house.act(0, 12, 2, 0, 0, 0);
        dueTurn(house, 0, 3, 7, 1, 2, 0);
        house.act(0, 13, 0, 0, 0, 0);
        dueTurn(house, 0, 4, 8, 1, 2, 1);
        house.act(0, 13, 0, 0, 0, 0);
        dueTurn(house, 0, 5, 9, 2, 2, 1);
        CHECK.due("a set to the same adds none", house.act(0, 1, 2, 0, 7, 0), 10);
        house.act(0, 1, 4, 0, 7, 0);
        house.act(0, 3, 1, 1, 7, 0);
        house.act(0, 1, 1, 2, 7, 0);
        CHECK.due("nor another kind or part", house.node(0, 8), 6);
        house.stand(0, 0, 0, 0, 0, 0);
        house.act(0, 0, 0, 0, 0, 0);
        dueTurn(house, 0, 6, 14, 0, 14, 1);
        CHECK.due("what 4", house.turned(0, 0, 4), -1);
        CHECK.due("what -1", house.turned(0, 0, -1), -1);
        CHECK.due("entry -1", house.turned(0, -1, 0), -1);
        CHECK.due("entry behind the last", house.turned(0, 7, 0), -1);
        CHECK.due("node -1", house.turned(-1, 0, 0), -1);
        CHECK.due("node 4", house.turned(4, 0, 0), -1);
        house.calm(0);
        CHECK.due("none any more", house.turned(0, 0, 0), -1);
        CHECK.due("none", house.node(0, 8), 0);
        house.act(0, 1, 1, 0, 3, 0);
        dueTurn(house, 0, 0, 15, 0, 1, 0);
        dueTurn(house, 0, 1, 15, 2, 1, 1);
    }

    private static void dueTurn(AccordHouse house, int node, int i, int row, int list, int object, int came) {
        int[] due = {row, list, object, came};
        for (int what = 0; what < 4; what++) {
            CHECK.due("turn " + i + ", " + what, house.turned(node, i, what), due[what]);
        }
    }

    private static void turnsByAnother() {
        AccordHouse house = house();
        house.stand(1, 0, 0, 0, 0, 0);
        Check.bring(house, 0, 1);
        CHECK.due("three came", house.node(1, 8), 3);
        dueTurn(house, 1, 2, 3, 0, 3, 1);
        house.act(0, 1, 3, 0, 1, 0);
        house.join(1, 0);
        CHECK.due("joining adds none", house.node(1, 8), 3);
        CHECK.due("but the list stands on", house.listed(1, 0, -1), 2);
    }

    private static void turnsAreLimited() {
        AccordHouse house = house();
        for (int q = 0; q < 4; q++) {
            house.stand(0, q, 0, 0, 1, 1);
        }
        for (int i = 0; i < 60; i++) {
            house.act(0, 1, 1, 0, 1 - i % 2, 0);
        }
        CHECK.due("two hundred", house.node(0, 8), 200);
        dueTurn(house, 0, 199, 4 + 50, 3, 1, 0);
        CHECK.due("no more", house.turned(0, 200, 0), -1);
        house.calm(0);
        house.act(0, 1, 1, 0, 1, 0);
        CHECK.due("room again", house.node(0, 8), 4);
    }

    private static void lists() {
        AccordHouse house = house();
        house.act(2, 0, 0, 0, 0, 0);
        house.act(1, 0, 0, 0, 1, 0);
        CHECK.due("its own alone", house.list(1, 0), 1001);
        CHECK.due("one", house.list(1, 1), -1);
        Check.bring(house, 2, 0);
        Check.bring(house, 1, 0);
        int[] due = {1, 2, 3, 4, 1001, 2001};
        for (int k = 0; k < 6; k++) {
            CHECK.due("by names", house.list(0, k), due[k]);
        }
        CHECK.due("behind the last", house.list(0, 6), -1);
        CHECK.due("k -1", house.list(0, -1), -1);
        CHECK.due("node -1", house.list(-1, 0), -1);
        CHECK.due("node 4", house.list(4, 0), -1);
        house.act(0, 12, 1, 0, 0, 0);
        CHECK.due("without the dropped one", house.list(0, 0), 2);
        CHECK.due("how many", house.node(0, 4), 5);
    }

    private static void counts() {
        AccordHouse house = house();
        house.act(0, 1, 1, 0, -5, 0);
        house.act(0, 1, 2, 0, 5, 0);
        CHECK.due("all", house.count(0, 0, 0, -5, 5), 3);
        CHECK.due("the middle", house.count(0, 0, 0, -4, 4), 1);
        CHECK.due("one alone", house.count(0, 0, 0, 5, 5), 1);
        CHECK.due("turned round", house.count(0, 0, 0, 5, -5), 0);
        CHECK.due("all numbers", house.count(0, 0, 0, Integer.MIN_VALUE, Integer.MAX_VALUE), 3);
        CHECK.due("the other part", house.count(0, 0, 2, 0, 0), 3);
        CHECK.due("the other kind", house.count(0, 1, 0, 0, 0), 1);
        CHECK.due("elsewhere", house.count(1, 0, 0, 0, 0), 0);
        house.act(0, 12, 2, 0, 0, 0);
        CHECK.due("without the dropped one", house.count(0, 0, 0, 5, 5), 0);
        int[][] wrong = {{-1, 0, 0}, {4, 0, 0}, {0, -1, 0}, {0, 2, 0}, {0, 0, -1}, {0, 0, 3}, {0, 0, 1}, {0, 1, 1}};
        for (int[] given : wrong) {
            CHECK.due("count", house.count(given[0], given[1], given[2], -9, 9), -1);
            CHECK.due("ranked", house.ranked(given[0], given[1], given[2], 0), -1);
        }
    }

    private static void ranks() {
        AccordHouse house = house();
        house.act(3, 0, 0, 0, 0, 0);
        Check.bring(house, 3, 0);
        house.act(0, 1, 1, 0, 5, 0);
        house.act(0, 1, 3, 0, Integer.MIN_VALUE, 0);
        house.act(0, 1, 3001, 0, 5, 0);
        int[] due = {3, 2, 1, 3001};
        for (int k = 0; k < 4; k++) {
            CHECK.due("by value, then name", house.ranked(0, 0, 0, k), due[k]);
        }
        CHECK.due("behind the last", house.ranked(0, 0, 0, 4), -1);
        CHECK.due("k -1", house.ranked(0, 0, 0, -1), -1);
        CHECK.due("the other part: by names", house.ranked(0, 0, 2, 0), 1);
        CHECK.due("the other kind", house.ranked(0, 1, 0, 0), 4);
        house.act(0, 12, 2, 0, 0, 0);
        CHECK.due("without the dropped one", house.ranked(0, 0, 0, 1), 1);
    }
}
