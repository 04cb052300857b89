/** Promise 6: act, its refusals and their order, and what the rows hold. */
public final class ActTest {
    private static final Check CHECK = new Check();
    private static final int L = 0;
    private static final int S = 1;
    private static final int C = 2;
    private static final int B = 3;
    private static final int A = 4;
    private static final int T = 5;

    public static void main(String[] args) {
        firstRefusal();
        secondAndThirdRefusal();
        shares();
        setsAndMaps();
        texts();
        moves();
        claims();
        undoing();
        redoing();
        stableIsNotUndone();
        limits();
        fifthAheadOfFourth();
        stamps();
        whatIsNotNeededIsZero();
        CHECK.end();
    }

    /** Kind 0 LSCBAT, kind 1 M; object 1 is of kind 0, object 2 of kind 1. */
    private static AccordHouse house() {
        AccordHouse house = new AccordHouse();
        Check.kind(house, "LSCBAT");
        Check.kind(house, "M");
        CHECK.due("the first object", house.act(0, 0, 0, 0, 0, 0), 1);
        CHECK.due("the second object", house.act(0, 0, 0, 0, 1, 0), 2);
        return house;
    }

    private static void firstRefusal() {
        AccordHouse house = house();
        CHECK.due("no node -1", house.act(-1, 1, 1, L, 5, 0), -1);
        CHECK.due("no node 4", house.act(4, 1, 1, L, 5, 0), -1);
        CHECK.due("no sort -1", house.act(0, -1, 1, L, 5, 0), -1);
        CHECK.due("no sort 19", house.act(0, 19, 1, L, 5, 0), -1);
        CHECK.due("no kind", house.act(0, 0, 0, 0, 2, 0), -1);
        int[] sorts = {1, 2, 3, 4, 5, 6, 7, 8, 9, 10, 11, 12, 15, 16, 17, 18};
        int[] objects = {0, 3, -1, 1001, 4001, Integer.MAX_VALUE, Integer.MIN_VALUE, -999, 251, 1000};
        for (int sort : sorts) {
            for (int object : objects) {
                CHECK.due("no object " + object + " for " + sort, house.act(0, sort, object, 0, 1, 1), -1);
            }
            CHECK.due("not made there, " + sort, house.act(1, sort, 1, 0, 1, 1), -1);
        }
        house.act(0, 1, 1, L, 5, 0);
        CHECK.due("a row that is no make", house.act(0, 1, 3, L, 5, 0), -1);
        int[] parted = {1, 2, 3, 4, 5, 6, 7, 8, 9, 10, 15, 16};
        for (int sort : parted) {
            CHECK.due("no part 6", house.act(0, sort, 1, 6, 1, 1), -1);
            CHECK.due("no part -1", house.act(0, sort, 1, -1, 1, 1), -1);
            CHECK.due("no part 1 of a kind with one", house.act(0, sort, 2, 1, 1, 1), -1);
        }
        CHECK.due("nothing was made", house.total(4), 3);
    }

    private static void secondAndThirdRefusal() {
        AccordHouse house = house();
        String due = "0LSCBBBAATT0000MM00";
        String kind = "LSCBAT";
        for (int sort = 1; sort <= 16; sort++) {
            for (int part = 0; part < 6 && due.charAt(sort) != '0'; part++) {
                if (kind.charAt(part) != due.charAt(sort)) {
                    CHECK.due("another rule for " + sort, house.act(0, sort, 1, part, 1, 1), -2);
                }
            }
        }
        CHECK.due("set of a map", house.act(0, 1, 2, 0, 1, 1), -2);
        CHECK.due("no parent that is no object", house.act(0, 11, 1, 0, 3, 0), -3);
        CHECK.due("nor -2", house.act(0, 11, 1, 0, -2, 0), -3);
        CHECK.due("nor 0", house.act(0, 11, 1, 0, 0, 0), -3);
        house.act(0, 12, 2, 0, 0, 0);
        CHECK.due("a parent that is not there", house.act(0, 11, 1, 0, 2, 0), -3);
        CHECK.due("bind in what is not there", house.act(0, 15, 2, 0, 1, 1), -3);
        CHECK.due("the rule is asked first", house.act(0, 1, 2, 0, 1, 1), -2);
        CHECK.due("the part is asked first", house.act(0, 1, 2, 1, 1, 1), -1);
        CHECK.due("that is asked ahead of the numbers", house.act(0, 15, 2, 0, 64, 1), -3);
        CHECK.due("drop of what is not there", house.act(0, 12, 2, 0, 0, 0), -3);
        CHECK.due("claim of what is not there", house.act(0, 17, 2, 0, 5, 0), -3);
        CHECK.due("release of what is not there", house.act(0, 18, 2, 0, 5, 0), -3);
        CHECK.due("move of what is not there", house.act(0, 11, 2, 0, -1, 0), -3);
        CHECK.due("one row was made", house.total(4), 3);
        CHECK.due("undo needs no object", house.act(0, 13, 2, 0, 0, 0), 4);
        CHECK.due("there again", house.act(0, 15, 2, 0, 1, 1), 5);
    }

    private static void shares() {
        AccordHouse house = house();
        CHECK.due("issue 0", house.act(0, 4, 1, B, 0, 0), -5);
        CHECK.due("issue 1001", house.act(0, 4, 1, B, 1001, 0), -5);
        CHECK.due("spend without", house.act(0, 5, 1, B, 1, 0), -5);
        CHECK.due("issue 1000", house.act(0, 4, 1, B, 1000, 9), 3);
        CHECK.due("issue 1", house.act(0, 4, 1, B, 1, 0), 4);
        CHECK.due("spend 1001", house.act(0, 5, 1, B, 1001, 0), -5);
        CHECK.due("spend 0", house.act(0, 5, 1, B, 0, 0), -5);
        CHECK.due("spend 1000", house.act(0, 5, 1, B, 1000, 0), 5);
        CHECK.due("spend 2 of 1", house.act(0, 5, 1, B, 2, 0), -5);
        CHECK.due("lend to itself", house.act(0, 6, 1, B, 1, 0), -5);
        CHECK.due("lend to nobody", house.act(0, 6, 1, B, 1, 4), -5);
        CHECK.due("lend to -1", house.act(0, 6, 1, B, 1, -1), -5);
        CHECK.due("lend 0", house.act(0, 6, 1, B, 0, 1), -5);
        CHECK.due("lend 2 of 1", house.act(0, 6, 1, B, 2, 1), -5);
        CHECK.due("lend 1", house.act(0, 6, 1, B, 1, 3), 6);
        CHECK.due("none is left", house.act(0, 5, 1, B, 1, 0), -5);
        CHECK.dueText("shares", Check.values(house, 0, 1, B), "0,0,0,1,1");
        CHECK.due("no such v at all", house.act(0, 4, 1, B, Integer.MIN_VALUE, 0), -5);
    }

    private static void setsAndMaps() {
        AccordHouse house = house();
        CHECK.due("enter -1", house.act(0, 7, 1, A, -1, 0), -5);
        CHECK.due("enter 64", house.act(0, 7, 1, A, 64, 0), -5);
        CHECK.due("leave what is not in it", house.act(0, 8, 1, A, 5, 0), -5);
        CHECK.due("enter 0", house.act(0, 7, 1, A, 0, 0), 3);
        CHECK.due("enter 63", house.act(0, 7, 1, A, 63, 0), 4);
        CHECK.due("enter 63 again", house.act(0, 7, 1, A, 63, 0), 5);
        CHECK.due("leave 63", house.act(0, 8, 1, A, 63, 0), 6);
        CHECK.due("leave 63 again", house.act(0, 8, 1, A, 63, 0), -5);
        CHECK.due("leave 64", house.act(0, 8, 1, A, 64, 0), -5);
        CHECK.due("leave -1", house.act(0, 8, 1, A, -1, 0), -5);
        CHECK.dueText("set", Check.values(house, 0, 1, A), "0");
        CHECK.due("bind -1", house.act(0, 15, 2, 0, -1, 5), -5);
        CHECK.due("bind 64", house.act(0, 15, 2, 0, 64, 5), -5);
        CHECK.due("unbind what is not bound", house.act(0, 16, 2, 0, 63, 5), -5);
        CHECK.due("bind 63", house.act(0, 15, 2, 0, 63, Integer.MIN_VALUE), 7);
        CHECK.due("bind 0", house.act(0, 15, 2, 0, 0, 9), 8);
        CHECK.due("unbind 63", house.act(0, 16, 2, 0, 63, 5), 9);
        CHECK.due("unbind 63 again", house.act(0, 16, 2, 0, 63, 5), -5);
        CHECK.dueText("keys", Check.values(house, 0, 2, 0), "0");
    }

    private static void texts() {
        AccordHouse house = house();
        CHECK.due("a character below 32", house.act(0, 9, 1, T, 31, 0), -5);
        CHECK.due("a character above 126", house.act(0, 9, 1, T, 127, 0), -5);
        CHECK.due("a place too far", house.act(0, 9, 1, T, 'a', 1), -5);
        CHECK.due("a place below 0", house.act(0, 9, 1, T, 'a', -1), -5);
        CHECK.due("erase nothing", house.act(0, 10, 1, T, 0, 0), -5);
        CHECK.due("a blank", house.act(0, 9, 1, T, 32, 0), 3);
        CHECK.due("a tilde", house.act(0, 9, 1, T, 126, 1), 4);
        CHECK.due("between", house.act(0, 9, 1, T, 'b', 1), 5);
        CHECK.dueText("text", Check.text(house, 0, 1, T), " b~");
        CHECK.due("w of the first", house.row(0, 3, 4), 0);
        CHECK.due("w of the second", house.row(0, 4, 4), 3);
        CHECK.due("w of the third", house.row(0, 5, 4), 3);
        CHECK.due("erase behind the end", house.act(0, 10, 1, T, 0, 3), -5);
        CHECK.due("erase ahead", house.act(0, 10, 1, T, 0, -1), -5);
        CHECK.due("erase the middle", house.act(0, 10, 1, T, 77, 1), 6);
        CHECK.due("it tells the insert", house.row(0, 6, 4), 5);
        CHECK.due("and no character", house.row(0, 6, 3), 0);
        CHECK.due("at the end", house.act(0, 9, 1, T, 'c', 2), 7);
        CHECK.due("behind the tilde", house.row(0, 7, 4), 4);
        CHECK.dueText("text", Check.text(house, 0, 1, T), " ~c");
    }

    private static void moves() {
        AccordHouse house = house();
        CHECK.due("a parent", house.act(0, 11, 1, 0, 2, 0), 3);
        CHECK.due("parent", house.object(0, 1, 2), 2);
        CHECK.due("a ring makes a row", house.act(0, 11, 2, 0, 1, 0), 4);
        CHECK.due("but does nothing", house.object(0, 2, 2), -1);
        CHECK.due("its own parent makes a row", house.act(0, 11, 2, 0, 2, 0), 5);
        CHECK.due("but does nothing either", house.object(0, 2, 2), -1);
        CHECK.due("no parent", house.act(0, 11, 1, 0, -1, 0), 6);
        CHECK.due("none", house.object(0, 1, 2), -1);
        CHECK.due("v is -1 in the row", house.row(0, 6, 3), -1);
    }

    private static void claims() {
        AccordHouse house = house();
        CHECK.due("claim for 0", house.act(0, 17, 1, 0, 0, 0), -5);
        CHECK.due("claim for 101", house.act(0, 17, 1, 0, 101, 0), -5);
        CHECK.due("release without", house.act(0, 18, 1, 0, 0, 0), -5);
        CHECK.due("claim for 100", house.act(0, 17, 1, 0, 100, 0), 3);
        CHECK.due("claim for 1", house.act(0, 17, 1, 0, 1, 0), 4);
        Check.bring(house, 0, 1);
        CHECK.due("held by another", house.act(1, 17, 1, 0, 1, 0), -5);
        CHECK.due("not its to release", house.act(1, 18, 1, 0, 0, 0), -5);
        house.tick(1, 99);
        CHECK.due("the last time", house.act(1, 17, 1, 0, 1, 0), -5);
        house.tick(1, 1);
        CHECK.due("no longer held there", house.object(1, 1, 4), -1);
        CHECK.due("free", house.act(1, 17, 1, 0, 5, 0), 1001);
        CHECK.due("still held here", house.object(0, 1, 4), 0);
        CHECK.due("release", house.act(0, 18, 1, 0, 0, 0), 5);
        CHECK.due("released", house.object(0, 1, 4), -1);
        CHECK.due("released already", house.act(0, 18, 1, 0, 0, 0), -5);
        CHECK.due("claim again", house.act(0, 17, 1, 0, 2, 0), 6);
        CHECK.due("held again", house.object(0, 1, 4), 0);
    }

    private static void undoing() {
        AccordHouse house = new AccordHouse();
        Check.kind(house, "LSCBAT");
        CHECK.due("nothing to undo", house.act(0, 13, 0, 0, 0, 0), -5);
        house.act(0, 0, 0, 0, 0, 0);
        CHECK.due("a make is not undone", house.act(0, 13, 0, 0, 0, 0), -5);
        house.act(0, 4, 1, B, 50, 0);
        house.act(0, 5, 1, B, 1, 0);
        house.act(0, 6, 1, B, 1, 1);
        house.act(0, 17, 1, 0, 5, 0);
        house.act(0, 18, 1, 0, 5, 0);
        CHECK.due("nor shares and claims", house.act(0, 13, 0, 0, 0, 0), -5);
        house.act(0, 1, 1, L, 5, 0);
        house.act(0, 1, 1, L, 6, 0);
        house.act(0, 4, 1, B, 50, 0);
        CHECK.due("undo", house.act(0, 13, 99, 99, 99, 99), 10);
        CHECK.due("for the last set", house.row(0, 10, 4), 8);
        CHECK.due("undo again", house.act(0, 13, 0, 0, 0, 0), 11);
        CHECK.due("for the one ahead", house.row(0, 11, 4), 7);
        CHECK.due("no set is good", house.value(0, 1, L, 0), 0);
        CHECK.due("nothing more", house.act(0, 13, 0, 0, 0, 0), -5);
        int[][] all = {{2, S, 4, 0}, {3, C, 4, 0}, {7, A, 4, 0}, {8, A, 4, 0}, {9, T, 97, 0}, {10, T, 0, 0},
            {11, 0, -1, 0}, {12, 0, 0, 0}};
        for (int[] given : all) {
            if (given[0] == 8 || given[0] == 10) {
                house.act(0, 14, 0, 0, 0, 0);
            }
            int name = house.act(0, given[0], 1, given[1], given[2], given[3]);
            int undo = house.act(0, 13, 0, 0, 0, 0);
            CHECK.due("the undo of a row of sort " + given[0], house.row(0, undo, 4), name);
            CHECK.due("it is not good then", house.row(0, name, 7), 0);
        }
        Check.bring(house, 0, 1);
        CHECK.due("rows of others are not undone", house.act(1, 13, 0, 0, 0, 0), -5);
        CHECK.due("nor redone", house.act(1, 14, 0, 0, 0, 0), -5);
    }

    private static void redoing() {
        AccordHouse house = house();
        CHECK.due("nothing to redo", house.act(0, 14, 0, 0, 0, 0), -5);
        house.act(0, 1, 1, L, 5, 0);
        house.act(0, 1, 1, L, 6, 0);
        CHECK.due("undo 6", house.act(0, 13, 0, 0, 0, 0), 5);
        CHECK.due("undo 5", house.act(0, 13, 0, 0, 0, 0), 6);
        CHECK.due("redo", house.act(0, 14, 9, 9, 9, 9), 7);
        CHECK.due("what was undone last", house.row(0, 7, 4), 3);
        CHECK.due("5 again", house.value(0, 1, L, 0), 5);
        CHECK.due("redo", house.act(0, 14, 0, 0, 0, 0), 8);
        CHECK.due("6 again", house.value(0, 1, L, 0), 6);
        CHECK.due("nothing is left", house.act(0, 14, 0, 0, 0, 0), -5);
        CHECK.due("undo 6", house.act(0, 13, 0, 0, 0, 0), 9);
        CHECK.due("that is row 4", house.row(0, 9, 4), 4);
        house.act(0, 1, 1, L, 7, 0);
        CHECK.due("a new row does not hinder", house.act(0, 14, 0, 0, 0, 0), 11);
        CHECK.due("row 4 is good", house.row(0, 4, 7), 1);
        CHECK.due("the last in order counts", house.value(0, 1, L, 0), 7);
    }

    private static void stableIsNotUndone() {
        AccordHouse house = house();
        house.act(0, 1, 1, L, 5, 0);
        for (int m = 1; m < 4; m++) {
            CHECK.due("not stable yet", house.row(0, 3, 8), 0);
            Check.bring(house, 0, m);
            Check.bring(house, m, 0);
        }
        CHECK.due("stable", house.row(0, 3, 8), 1);
        CHECK.due("not undone any more", house.act(0, 13, 0, 0, 0, 0), -5);
        house.act(0, 1, 1, L, 6, 0);
        CHECK.due("a later one is", house.act(0, 13, 0, 0, 0, 0), 5);
        CHECK.due("the stable one is next, and stays", house.act(0, 13, 0, 0, 0, 0), -5);
        for (int m = 1; m < 4; m++) {
            Check.bring(house, 0, m);
            Check.bring(house, m, 0);
        }
        CHECK.due("the undone one is stable", house.row(0, 4, 8), 1);
        CHECK.due("it is redone all the same", house.act(0, 14, 0, 0, 0, 0), 6);
        CHECK.due("value", house.value(0, 1, L, 0), 6);
    }

    private static void limits() {
        AccordHouse house = new AccordHouse();
        Check.kind(house, "LT");
        for (int i = 1; i <= 12; i++) {
            CHECK.due("make", house.act(2, 0, 0, 0, 0, 0), 2000 + i);
        }
        CHECK.due("a thirteenth make", house.act(2, 0, 0, 0, 0, 0), -4);
        CHECK.due("of no kind is asked first", house.act(2, 0, 0, 0, 1, 0), -1);
        CHECK.due("another node's", house.act(1, 0, 0, 0, 0, 0), 1001);
        for (int i = 13; i <= 250; i++) {
            CHECK.due("set", house.act(2, 1, 2012, 0, i, 0), 2000 + i);
        }
        CHECK.due("row 251", house.act(2, 1, 2012, 0, 5, 0), -4);
        CHECK.due("an undo too", house.act(2, 13, 0, 0, 0, 0), -4);
        CHECK.due("a redo is refused by 5", house.act(2, 14, 0, 0, 0, 0), -5);
        CHECK.due("rows in all", house.total(4), 251);
        CHECK.due("the value", house.value(2, 2012, 0, 0), 250);
    }

    private static void fifthAheadOfFourth() {
        AccordHouse house = new AccordHouse();
        Check.kind(house, "LA");
        house.act(0, 0, 0, 0, 0, 0);
        for (int i = 2; i <= 250; i++) {
            house.act(0, 1, 1, 0, i, 0);
        }
        CHECK.due("no such key", house.act(0, 7, 1, 1, 64, 0), -5);
        CHECK.due("no room", house.act(0, 7, 1, 1, 63, 0), -4);
        CHECK.due("no release", house.act(0, 18, 1, 0, 0, 0), -5);
        CHECK.due("no room for a claim", house.act(0, 17, 1, 0, 5, 0), -4);
        CHECK.due("another rule", house.act(0, 7, 1, 0, 5, 0), -2);
    }

    private static void stamps() {
        AccordHouse house = new AccordHouse();
        Check.kind(house, "L");
        house.act(0, 0, 0, 0, 0, 0);
        dueStamp(house, 0, 1, 0, 1);
        house.act(0, 1, 1, 0, 1, 0);
        dueStamp(house, 0, 2, 0, 2);
        house.tick(0, 5);
        house.act(0, 1, 1, 0, 2, 0);
        dueStamp(house, 0, 3, 5, 0);
        house.act(0, 1, 1, 0, 3, 0);
        dueStamp(house, 0, 4, 5, 1);
        Check.bring(house, 0, 1);
        house.tick(1, 3);
        house.act(1, 1, 1, 0, 4, 0);
        dueStamp(house, 1, 1001, 5, 2);
        CHECK.due("its vector", house.row(1, 1001, 10), 4);
        CHECK.due("its own one", house.row(1, 1001, 11), 0);
        house.act(1, 1, 1, 0, 4, 0);
        CHECK.due("its own one then", house.row(1, 1002, 11), 1);
        house.tick(1, 3);
        house.act(1, 1, 1, 0, 5, 0);
        dueStamp(house, 1, 1003, 6, 0);
        house.tick(3, 9);
        house.act(3, 0, 0, 0, 0, 0);
        dueStamp(house, 3, 3001, 9, 0);
    }

    private static void dueStamp(AccordHouse house, int node, int name, int time, int count) {
        CHECK.due("time of " + name, house.row(node, name, 5), time);
        CHECK.due("count of " + name, house.row(node, name, 6), count);
        CHECK.due("last time", house.node(node, 5), time);
        CHECK.due("last count", house.node(node, 6), count);
    }

    private static void whatIsNotNeededIsZero() {
        AccordHouse house = house();
        house.act(0, 0, 7, 7, 0, 7);
        dueRow(house, 3, 0, 0, 0, 0, 0);
        house.act(0, 1, 1, L, 8, 9);
        dueRow(house, 4, 1, 1, L, 8, 0);
        house.act(0, 2, 1, S, 8, 9);
        dueRow(house, 5, 2, 1, S, 8, 0);
        house.act(0, 3, 1, C, 8, 9);
        dueRow(house, 6, 3, 1, C, 8, 0);
        house.act(0, 4, 1, B, 8, 9);
        dueRow(house, 7, 4, 1, B, 8, 0);
        house.act(0, 5, 1, B, 2, 9);
        dueRow(house, 8, 5, 1, B, 2, 0);
        house.act(0, 6, 1, B, 2, 3);
        dueRow(house, 9, 6, 1, B, 2, 3);
        house.act(0, 7, 1, A, 8, 9);
        dueRow(house, 10, 7, 1, A, 8, 0);
        house.act(0, 8, 1, A, 8, 9);
        dueRow(house, 11, 8, 1, A, 8, 0);
        house.act(0, 9, 1, T, 'x', 0);
        dueRow(house, 12, 9, 1, T, 'x', 0);
        house.act(0, 10, 1, T, 'x', 0);
        dueRow(house, 13, 10, 1, T, 0, 12);
        house.act(0, 11, 1, 7, 2, 9);
        dueRow(house, 14, 11, 1, 0, 2, 0);
        house.act(0, 15, 2, 0, 8, 9);
        dueRow(house, 15, 15, 2, 0, 8, 9);
        house.act(0, 16, 2, 0, 8, 9);
        dueRow(house, 16, 16, 2, 0, 8, 0);
        house.act(0, 17, 1, 7, 8, 9);
        dueRow(house, 17, 17, 1, 0, 8, 0);
        house.act(0, 18, 1, 7, 8, 9);
        dueRow(house, 18, 18, 1, 0, 0, 0);
        house.act(0, 12, 1, 7, 8, 9);
        dueRow(house, 19, 12, 1, 0, 0, 0);
        house.act(0, 13, 1, 7, 8, 9);
        dueRow(house, 20, 13, 0, 0, 0, 19);
        house.act(0, 14, 1, 7, 8, 9);
        dueRow(house, 21, 14, 0, 0, 0, 19);
    }

    private static void dueRow(AccordHouse house, int name, int sort, int object, int part, int v, int w) {
        int[] due = {sort, object, part, v, w};
        for (int what = 0; what < 5; what++) {
            CHECK.due("row " + name + ", " + what, house.row(0, name, what), due[what]);
        }
    }
}
