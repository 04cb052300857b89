/** Promises 28, 30 and 32 to 35: past, row, news, calm, node, total. */
public final class LooksTest {
    private static final Check CHECK = new Check();

    public static void main(String[] args) {
        pastValues();
        pastRefused();
        pastOfAnother();
        rows();
        rowsRefused();
        stableRows();
        newsOfAll();
        newsByValues();
        newsOfOthers();
        newsAreLimited();
        calms();
        nodes();
        totals();
        CHECK.end();
    }

    private static void pastValues() {
        AccordHouse house = Check.house("LC", "LC");
        house.act(0, 1, 1, 0, 5, 0);
        house.act(0, 3, 1, 1, 2, 0);
        house.act(0, 1, 1, 0, 6, 0);
        house.act(0, 13, 0, 0, 0, 0);
        house.act(0, 3, 1, 1, 3, 0);
        house.act(0, 14, 0, 0, 0, 0);
        int[] latest = {0, 0, 0, 5, 5, 6, 5, 5, 6};
        int[] sums = {0, 0, 0, 0, 2, 2, 2, 5, 5};
        for (int k = 0; k <= 8; k++) {
            CHECK.due("L at " + k, house.past(0, k, 1, 0), latest[k]);
            CHECK.due("C at " + k, house.past(0, k, 1, 1), sums[k]);
        }
        CHECK.due("not made then", house.past(0, 1, 2, 0), 0);
        CHECK.due("now is untouched", house.value(0, 1, 0, 0), 6);
        house.act(0, 12, 1, 0, 0, 0);
        CHECK.due("also if it is not there", house.past(0, 9, 1, 0), 6);
    }

    private static void pastRefused() {
        AccordHouse house = Check.house("LCST");
        CHECK.due("none", house.past(0, 0, 1, 0), 0);
        CHECK.due("all", house.past(0, 1, 1, 0), 0);
        CHECK.dueNoSuch("k 2", () -> house.past(0, 2, 1, 0));
        CHECK.dueNoSuch("k -1", () -> house.past(0, -1, 1, 0));
        CHECK.dueNoSuch("node -1", () -> house.past(-1, 0, 1, 0));
        CHECK.dueNoSuch("node 4", () -> house.past(4, 0, 1, 0));
        CHECK.dueNoSuch("no object", () -> house.past(0, 0, 2, 0));
        CHECK.dueNoSuch("not made there", () -> house.past(1, 0, 1, 0));
        CHECK.dueNoSuch("part -1", () -> house.past(0, 0, 1, -1));
        CHECK.dueNoSuch("part 4", () -> house.past(0, 0, 1, 4));
        CHECK.dueNoSuch("S", () -> house.past(0, 0, 1, 2));
        CHECK.dueNoSuch("T", () -> house.past(0, 0, 1, 3));
    }

    /** By the order in which rows came to the node, with what ORDER says of those. */
    private static void pastOfAnother() {
        AccordHouse house = Check.house("LC");
        house.join(1, 0);
        house.tick(1, 5);
        house.act(1, 1, 1, 0, 10, 0);
        house.act(0, 1, 1, 0, 20, 0);
        Check.bring(house, 0, 1);
        Check.bring(house, 1, 0);
        CHECK.due("at 0: its own", house.past(0, 2, 1, 0), 20);
        CHECK.due("at 0: then the later one", house.past(0, 3, 1, 0), 10);
        CHECK.due("at 1: its own", house.past(1, 2, 1, 0), 10);
        CHECK.due("at 1: the earlier one changes nothing", house.past(1, 3, 1, 0), 10);
    }

    private static void rows() {
        AccordHouse house = Check.house("LM");
        house.tick(0, 3);
        house.act(0, 15, 1, 1, 7, -9);
        house.join(1, 0);
        house.act(1, 1, 1, 0, 8, 0);
        int[] make = {0, 0, 0, 0, 0, 0, 1, 1, 0, 0, 0, 0, 0, 0};
        int[] bind = {15, 1, 1, 7, -9, 3, 0, 1, 0, 1, 1, 0, 0, 0};
        int[] set = {1, 1, 0, 8, 0, 3, 1, 1, 0, 2, 2, 0, 0, 0};
        for (int what = 0; what < 14; what++) {
            CHECK.due("make, " + what, house.row(1, 1, what), make[what]);
            CHECK.due("bind, " + what, house.row(1, 2, what), bind[what]);
            CHECK.due("set, " + what, house.row(1, 1001, what), set[what]);
        }
        house.act(1, 13, 0, 0, 0, 0);
        CHECK.due("undone", house.row(1, 1001, 7), 0);
        CHECK.due("the undo is good", house.row(1, 1002, 7), 1);
        house.act(1, 14, 0, 0, 0, 0);
        CHECK.due("redone", house.row(1, 1001, 7), 1);
    }

    private static void rowsRefused() {
        AccordHouse house = Check.house("L");
        int[] names = {0, 2, -1, 250, 251, 999, 1000, 1001, 3001, 4001, -999, Integer.MAX_VALUE, Integer.MIN_VALUE};
        for (int name : names) {
            CHECK.due("row " + name, house.row(0, name, 0), -1);
        }
        CHECK.due("not applied there", house.row(1, 1, 0), -1);
        rowsAtTheLimit();
        CHECK.due("node -1", house.row(-1, 1, 0), -1);
        CHECK.due("node 4", house.row(4, 1, 0), -1);
        CHECK.due("what -1", house.row(0, 1, -1), -1);
        CHECK.due("what 14", house.row(0, 1, 14), -1);
        CHECK.due("the greatest what", house.row(0, 1, Integer.MAX_VALUE), -1);
        CHECK.due("the least what", house.row(0, 1, Integer.MIN_VALUE), -1);
    }

    /** No name of one node's is taken for a row of the next one's. */
    private static void rowsAtTheLimit() {
        AccordHouse house = new AccordHouse();
        Check.kind(house, "L");
        for (int node = 0; node < 4; node++) {
            house.act(node, 0, 0, 0, 0, 0);
            for (int i = 2; i <= 250; i++) {
                house.act(node, 1, 1000 * node + 1, 0, i, 0);
            }
            CHECK.due("the last one", house.row(node, 1000 * node + 250, 3), 250);
            if (node < 3) {
                house.send(node, node + 1, true);
                house.deliver(0);
                house.lose(0);
            }
        }
        for (int node = 0; node < 4; node++) {
            for (int name : new int[] {0, 251, 1000, 1251, 2000, 2251, 3000, 3251, 4000, 999, 1999}) {
                CHECK.due("row " + name, house.row(node, name, 0), -1);
                CHECK.due("object " + name, house.object(node, name, 0), -1);
            }
        }
    }

    private static void stableRows() {
        AccordHouse house = Check.house("L");
        for (int i = 0; i < 3; i++) {
            house.act(0, 1, 1, 0, i, 0);
        }
        for (int m = 1; m < 4; m++) {
            CHECK.due("none", house.node(0, 7), 0);
            Check.bring(house, 0, m);
            house.act(0, 1, 1, 0, 9, 0);
            Check.bring(house, m, 0);
        }
        CHECK.due("as many as the first one knows", house.node(0, 7), 4);
        CHECK.due("row 4", house.row(0, 4, 8), 1);
        CHECK.due("row 5", house.row(0, 5, 8), 0);
        CHECK.due("at another one none is", house.node(3, 7), 0);
    }

    private static void dueNews(AccordHouse house, int node, int i, int row, int object, int part) {
        CHECK.due("row of news " + i, house.news(node, i, 0), row);
        CHECK.due("object of news " + i, house.news(node, i, 1), object);
        CHECK.due("part of news " + i, house.news(node, i, 2), part);
    }

    private static void newsOfAll() {
        AccordHouse house = Check.house("LSCBAT", "M");
        dueNews(house, 0, 0, 1, 1, 7);
        dueNews(house, 0, 1, 2, 2, 7);
        int[][] acts = {{1, 0, 5, 0}, {2, 1, 5, 0}, {3, 2, 5, 0}, {4, 3, 5, 0}, {7, 4, 5, 0}, {9, 5, 'a', 0},
            {8, 4, 5, 0}, {10, 5, 0, 0}, {5, 3, 1, 0}, {6, 3, 1, 2}};
        int news = 2;
        for (int[] act : acts) {
            int name = house.act(0, act[0], 1, act[1], act[2], act[3]);
            dueNews(house, 0, news, name, 1, act[1]);
            news++;
        }
        int bind = house.act(0, 15, 2, 0, 3, 4);
        dueNews(house, 0, news, bind, 2, 0);
        int unbind = house.act(0, 16, 2, 0, 3, 4);
        dueNews(house, 0, news + 1, unbind, 2, 0);
        int move = house.act(0, 11, 1, 0, 2, 0);
        dueNews(house, 0, news + 2, move, 1, 6);
        int drop = house.act(0, 12, 1, 0, 0, 0);
        dueNews(house, 0, news + 3, drop, 1, 7);
        int undo = house.act(0, 13, 0, 0, 0, 0);
        dueNews(house, 0, news + 4, undo, 1, 7);
        CHECK.due("claim", house.act(0, 17, 1, 0, 5, 0), undo + 1);
        CHECK.due("release", house.act(0, 18, 1, 0, 5, 0), undo + 2);
        CHECK.due("these are no news", house.node(0, 3), news + 5);
        CHECK.due("what 3", house.news(0, 0, 3), -1);
        CHECK.due("what -1", house.news(0, 0, -1), -1);
        CHECK.due("entry -1", house.news(0, -1, 0), -1);
        CHECK.due("behind the last", house.news(0, news + 5, 0), -1);
        CHECK.due("node -1", house.news(-1, 0, 0), -1);
        CHECK.due("node 4", house.news(4, 0, 0), -1);
    }

    /** Rows by which nothing else is seen are no news. */
    private static void newsByValues() {
        AccordHouse house = Check.house("LSCBAT", "M");
        house.act(0, 1, 1, 0, 5, 0);
        house.act(0, 2, 1, 1, 5, 0);
        house.act(0, 7, 1, 4, 5, 0);
        house.act(0, 15, 2, 0, 5, 7);
        house.act(0, 11, 1, 0, 2, 0);
        house.calm(0);
        int[][] acts = {{1, 1, 0, 5, 0}, {2, 1, 1, 5, 0}, {3, 1, 2, 0, 0}, {7, 1, 4, 5, 0}, {15, 2, 0, 5, 7},
            {11, 1, 0, 2, 0}, {11, 2, 0, 1, 0}, {11, 2, 0, 2, 0}, {11, 2, 0, -1, 0}};
        for (int[] act : acts) {
            CHECK.due("a row", house.act(0, act[0], act[1], act[2], act[3], act[4]) > 0, true);
            CHECK.due("no news of sort " + act[0], house.node(0, 3), 0);
        }
        house.act(0, 15, 2, 0, 5, 8);
        CHECK.due("what a key is bound to is seen", house.node(0, 3), 1);
        house.act(0, 1, 1, 0, 0, 0);
        CHECK.due("another value", house.node(0, 3), 2);
        house.act(0, 13, 0, 0, 0, 0);
        CHECK.due("and back", house.node(0, 3), 3);
    }

    private static void newsOfOthers() {
        AccordHouse house = Check.house("LT", "L");
        Check.commit(house, 0, 1, 1, "a");
        house.act(0, 12, 1, 0, 0, 0);
        Check.bring(house, 0, 1);
        dueNews(house, 1, 0, 1, 1, 7);
        dueNews(house, 1, 1, 2, 2, 7);
        dueNews(house, 1, 2, 3, 1, 1);
        dueNews(house, 1, 3, 4, 1, 7);
        CHECK.due("four", house.node(1, 3), 4);
        house.tick(2, 5);
        Check.bring(house, 0, 2);
        house.act(2, 1, 2, 0, 9, 0);
        house.act(0, 1, 2, 0, 8, 0);
        int told = house.node(2, 3);
        Check.bring(house, 0, 2);
        CHECK.due("an earlier set changes nothing", house.node(2, 3), told);
        house.send(0, 1, false);
        house.twice(0);
        house.deliver(0);
        told = house.node(1, 3);
        house.deliver(0);
        CHECK.due("nor does a row that came already", house.node(1, 3), told);
    }

    private static void newsAreLimited() {
        AccordHouse house = Check.house("LM");
        Check.bring(house, 0, 1);
        for (int i = 0; i < 249; i++) {
            house.act(1, 1, 1, 0, i + 1, 0);
        }
        CHECK.due("all 250", house.node(1, 3), 250);
        dueNews(house, 1, 249, 1249, 1, 0);
        house.act(1, 1, 1, 0, 999, 0);
        CHECK.due("still 250", house.node(1, 3), 250);
        dueNews(house, 1, 249, 1249, 1, 0);
        CHECK.due("calm", house.calm(1), 250);
        house.act(0, 3, 1, 0, 1, 0);
        house.act(0, 15, 1, 1, 3, 3);
        Check.bring(house, 0, 1);
        dueNews(house, 1, 0, 2, 1, 1);
    }

    private static void calms() {
        AccordHouse house = Check.house("L");
        house.stand(0, 0, 0, 0, 1, 5);
        house.act(0, 1, 1, 0, 5, 0);
        CHECK.due("node -1", house.calm(-1), -1);
        CHECK.due("node 4", house.calm(4), -1);
        CHECK.due("another one", house.calm(1), 0);
        CHECK.due("one entry", house.node(0, 8), 1);
        CHECK.due("two news", house.calm(0), 2);
        CHECK.due("none", house.node(0, 3), 0);
        CHECK.due("no entry", house.node(0, 8), 0);
        CHECK.due("none then", house.calm(0), 0);
        CHECK.due("the list stands on", house.listed(0, 0, 0), 1);
        CHECK.due("the value stays", house.value(0, 1, 0, 0), 5);
    }

    private static void nodes() {
        AccordHouse house = Check.house("L", "L");
        house.tick(0, 4);
        house.act(0, 1, 1, 0, 5, 0);
        house.act(0, 1, 1, 0, 6, 0);
        house.tick(0, 2);
        house.act(0, 12, 2, 0, 0, 0);
        house.tick(0, 1);
        Check.bring(house, 0, 1);
        house.tick(1, 2);
        house.act(1, 1, 1, 0, 7, 0);
        int[] due = {2, 6, 0, 6, 1, 6, 1, 0, 0, 6, 5, 1, 0, 0};
        for (int what = 0; what < due.length; what++) {
            CHECK.due("node(1, " + what + ")", house.node(1, what), due[what]);
        }
        CHECK.due("NOW by the watch", house.node(0, 9), 7);
        CHECK.due("LAST", house.node(0, 5), 6);
        Check.bring(house, 1, 0);
        CHECK.due("seen of 1 for 0", house.node(0, 24), 5);
        CHECK.due("seen of 1 for 1", house.node(0, 25), 1);
        CHECK.due("of itself known", house.node(0, 20), 5);
        CHECK.due("of itself known of 1", house.node(0, 21), 1);
        CHECK.due("seen of 2", house.node(0, 28), 0);
        CHECK.due("sent to 1", house.node(0, 44), 5);
        CHECK.due("sent to 1 of 1", house.node(0, 45), 0);
        CHECK.due("1 sent its one", house.node(1, 41), 1);
        int[] wrong = {-1, 14, 15, 19, 36, 39, 56, 60, Integer.MAX_VALUE, Integer.MIN_VALUE};
        for (int what : wrong) {
            CHECK.due("node(0, " + what + ")", house.node(0, what), -1);
        }
        CHECK.due("node -1", house.node(-1, 0), -1);
        CHECK.due("node 4", house.node(4, 0), -1);
    }

    private static void totals() {
        AccordHouse house = Check.house("L", "LT");
        house.act(3, 0, 0, 0, 0, 0);
        Check.type(house, "abc");
        house.send(0, 1, false);
        house.send(0, 2, false);
        house.send(0, 3, false);
        house.send(0, 3, false);
        house.lose(0);
        house.bend(0, 0, 1);
        house.deliver(0);
        int[] due = {2, 3, 2, 1, 3, 1};
        for (int what = 0; what < 6; what++) {
            CHECK.due("total " + what, house.total(what), due[what]);
        }
        CHECK.due("total -1", house.total(-1), -1);
        CHECK.due("total 6", house.total(6), -1);
        house.commit(0, 2, 1);
        CHECK.due("the tape", house.total(1), 0);
        CHECK.due("three rows more", house.total(4), 6);
    }
}
