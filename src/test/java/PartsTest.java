/** Promises 20 to 24: object, size, value, bound, by; how each rule comes together. */
public final class PartsTest {
    private static final Check CHECK = new Check();
    private static final int L = 0;
    private static final int S = 1;
    private static final int C = 2;
    private static final int B = 3;
    private static final int A = 4;
    private static final int T = 5;

    public static void main(String[] args) {
        whatIsNotThere();
        emptyParts();
        latest();
        several();
        severalUndone();
        sums();
        shares();
        sets();
        setsUndone();
        maps();
        texts();
        undoneInserts();
        parents();
        parentsUndone();
        droppedOnes();
        holders();
        CHECK.end();
    }

    /** Object 1 of kind LSCBAT and object 2 of kind M are at all nodes. */
    private static AccordHouse house() {
        return Check.everywhere("LSCBAT", "M");
    }

    private static void whatIsNotThere() {
        AccordHouse house = house();
        int[] objects = {0, 3, -1, 1001, Integer.MAX_VALUE, Integer.MIN_VALUE, 4001};
        for (int object : objects) {
            CHECK.due("object", house.object(0, object, 0), -1);
            CHECK.due("size", house.size(0, object, 0), -1);
            CHECK.due("by", house.by(0, object, 0, 0), -1);
            CHECK.dueNoSuch("value", () -> house.value(0, object, 0, 0));
            CHECK.dueNoSuch("bound", () -> house.bound(0, object, 0, 0));
        }
        int[] nodes = {-1, 4, Integer.MAX_VALUE, Integer.MIN_VALUE};
        for (int node : nodes) {
            CHECK.due("object", house.object(node, 1, 0), -1);
            CHECK.due("size", house.size(node, 1, 0), -1);
            CHECK.due("by", house.by(node, 1, 0, 0), -1);
            CHECK.dueNoSuch("value", () -> house.value(node, 1, 0, 0));
            CHECK.dueNoSuch("bound", () -> house.bound(node, 2, 0, 0));
        }
        int[] parts = {-1, 6, 7, Integer.MAX_VALUE, Integer.MIN_VALUE};
        for (int part : parts) {
            CHECK.due("size", house.size(0, 1, part), -1);
            CHECK.due("by", house.by(0, 1, part, 0), -1);
            CHECK.dueNoSuch("value", () -> house.value(0, 1, part, 0));
            CHECK.dueNoSuch("bound", () -> house.bound(0, 2, part, 0));
        }
        CHECK.due("object what -1", house.object(0, 1, -1), -1);
        CHECK.due("object what 5", house.object(0, 1, 5), -1);
        AccordHouse other = new AccordHouse();
        Check.kind(other, "L");
        other.act(0, 0, 0, 0, 0, 0);
        CHECK.due("not made at another node", other.object(1, 1, 0), -1);
        CHECK.due("its size neither", other.size(1, 1, 0), -1);
    }

    private static void emptyParts() {
        AccordHouse house = house();
        int[] sizes = {1, 0, 1, 5, 0, 0};
        for (int part = 0; part < 6; part++) {
            int at = part;
            CHECK.due("size of part " + part, house.size(1, 1, part), sizes[part]);
            CHECK.dueNoSuch("value behind the last", () -> house.value(1, 1, at, sizes[at]));
            CHECK.dueNoSuch("value ahead of the first", () -> house.value(1, 1, at, -1));
            CHECK.due("by behind the last", house.by(1, 1, part, sizes[part]), -1);
            CHECK.due("by ahead of the first", house.by(1, 1, part, -1), -1);
            CHECK.dueNoSuch("bound of another rule", () -> house.bound(1, 1, at, 0));
        }
        CHECK.due("L without a set", house.value(1, 1, L, 0), 0);
        CHECK.due("by without a set", house.by(1, 1, L, 0), 0);
        CHECK.due("C without an add", house.value(1, 1, C, 0), 0);
        CHECK.due("by of C", house.by(1, 1, C, 0), -1);
        CHECK.due("by of B", house.by(1, 1, B, 0), -1);
        CHECK.due("keys", house.size(1, 2, 0), 0);
        CHECK.dueNoSuch("a key", () -> house.bound(1, 2, 0, 0));
        CHECK.dueNoSuch("value of M", () -> house.value(1, 2, 0, 0));
        CHECK.due("there", house.object(1, 1, 0), 1);
        CHECK.due("kind 0", house.object(1, 1, 1), 0);
        CHECK.due("kind 1", house.object(1, 2, 1), 1);
        CHECK.due("parent", house.object(1, 1, 2), -1);
        CHECK.due("children", house.object(1, 1, 3), 0);
        CHECK.due("holder", house.object(1, 1, 4), -1);
    }

    private static void latest() {
        AccordHouse house = house();
        house.tick(1, 5);
        house.act(1, 1, 1, L, 10, 0);
        house.act(0, 1, 1, L, 20, 0);
        Check.meet(house, 0, 1);
        CHECK.due("the later time counts, not the later coming", house.value(0, 1, L, 0), 10);
        CHECK.due("at both", house.value(1, 1, L, 0), 10);
        CHECK.due("by", house.by(0, 1, L, 0), 1001);
        house.act(2, 1, 1, L, 30, 0);
        house.act(3, 1, 1, L, 40, 0);
        Check.meet(house, 2, 3);
        CHECK.due("the greater node at the same stamp", house.value(2, 1, L, 0), 40);
        CHECK.due("at both", house.value(3, 1, L, 0), 40);
        house.act(2, 1, 1, L, Integer.MIN_VALUE, 0);
        CHECK.due("any number", house.value(2, 1, L, 0), Integer.MIN_VALUE);
        house.act(2, 13, 0, 0, 0, 0);
        CHECK.due("undone", house.value(2, 1, L, 0), 40);
    }

    private static void several() {
        AccordHouse house = house();
        for (int node = 3; node >= 0; node--) {
            house.act(node, 2, 1, S, 10 * node, 0);
        }
        house.act(1, 2, 1, S, 11, 0);
        for (int node = 1; node < 4; node++) {
            Check.bring(house, node, 0);
        }
        CHECK.dueText("all four, by stamps", Check.values(house, 0, 1, S), "0,20,30,11");
        CHECK.due("by", house.by(0, 1, S, 3), 1002);
        CHECK.due("by the first", house.by(0, 1, S, 0), 3);
        CHECK.due("size", house.size(0, 1, S), 4);
        house.act(0, 2, 1, S, 7, 0);
        CHECK.dueText("one knew all", Check.values(house, 0, 1, S), "7");
        house.act(2, 2, 1, S, 7, 0);
        Check.bring(house, 2, 0);
        CHECK.dueText("the same value twice", Check.values(house, 0, 1, S), "7,7");
        CHECK.due("by stamps", house.by(0, 1, S, 0), 2002);
    }

    private static void severalUndone() {
        AccordHouse house = house();
        house.act(0, 2, 1, S, 1, 0);
        house.act(0, 2, 1, S, 2, 0);
        CHECK.dueText("the second knew the first", Check.values(house, 0, 1, S), "2");
        house.act(0, 13, 0, 0, 0, 0);
        CHECK.dueText("an undone one counts for nothing", Check.values(house, 0, 1, S), "1");
        house.act(0, 14, 0, 0, 0, 0);
        CHECK.dueText("redone", Check.values(house, 0, 1, S), "2");
        house.act(0, 13, 0, 0, 0, 0);
        house.act(0, 13, 0, 0, 0, 0);
        CHECK.dueText("none", Check.values(house, 0, 1, S), "");
    }

    private static void sums() {
        AccordHouse house = house();
        house.act(0, 3, 1, C, Integer.MAX_VALUE, 0);
        house.act(1, 3, 1, C, 5, 0);
        house.act(1, 3, 1, C, -3, 0);
        Check.meet(house, 0, 1);
        CHECK.due("it wraps", house.value(0, 1, C, 0), Integer.MIN_VALUE + 1);
        CHECK.due("at both", house.value(1, 1, C, 0), Integer.MIN_VALUE + 1);
        house.act(1, 13, 0, 0, 0, 0);
        CHECK.due("less the undone one", house.value(1, 1, C, 0), Integer.MIN_VALUE + 4);
        CHECK.dueNoSuch("one value", () -> house.value(0, 1, C, 1));
    }

    private static void shares() {
        AccordHouse house = house();
        house.act(0, 4, 1, B, 100, 0);
        house.act(0, 6, 1, B, 30, 2);
        house.act(0, 5, 1, B, 20, 0);
        house.act(1, 4, 1, B, 7, 0);
        Check.meet(house, 0, 1);
        Check.meet(house, 0, 2);
        CHECK.dueText("shares", Check.values(house, 2, 1, B), "50,7,30,0,87");
        CHECK.due("lend on", house.act(2, 6, 1, B, 30, 3), 2001);
        CHECK.due("none is left", house.act(2, 5, 1, B, 1, 0), -5);
        CHECK.dueText("shares", Check.values(house, 2, 1, B), "50,7,0,30,87");
        CHECK.due("not known there yet", house.act(3, 5, 1, B, 30, 0), -5);
        Check.bring(house, 2, 3);
        CHECK.due("known there", house.act(3, 5, 1, B, 30, 0), 3001);
        CHECK.dueText("shares", Check.values(house, 3, 1, B), "50,7,0,0,57");
        CHECK.dueNoSuch("five values", () -> house.value(3, 1, B, 5));
    }

    private static void sets() {
        AccordHouse house = house();
        house.act(0, 7, 1, A, 63, 0);
        house.act(0, 7, 1, A, 5, 0);
        house.act(0, 7, 1, A, 0, 0);
        CHECK.dueText("the least first", Check.values(house, 0, 1, A), "0,5,63");
        CHECK.due("by", house.by(0, 1, A, 2), 3);
        Check.meet(house, 0, 1);
        house.act(0, 7, 1, A, 5, 0);
        house.act(1, 8, 1, A, 5, 0);
        house.act(1, 8, 1, A, 0, 0);
        CHECK.dueText("left", Check.values(house, 1, 1, A), "63");
        Check.meet(house, 0, 1);
        CHECK.dueText("an enter that the leave did not know stays", Check.values(house, 0, 1, A), "5,63");
        CHECK.dueText("at both", Check.values(house, 1, 1, A), "5,63");
        CHECK.due("by that enter", house.by(1, 1, A, 0), 6);
        house.act(1, 7, 1, A, 5, 0);
        CHECK.due("by the last one of two", house.by(1, 1, A, 0), 1003);
        house.act(1, 8, 1, A, 5, 0);
        Check.meet(house, 0, 1);
        CHECK.dueText("now it knew all", Check.values(house, 0, 1, A), "63");
    }

    private static void setsUndone() {
        AccordHouse house = house();
        house.act(0, 7, 1, A, 9, 0);
        house.act(0, 8, 1, A, 9, 0);
        house.act(0, 13, 0, 0, 0, 0);
        CHECK.dueText("the leave is undone", Check.values(house, 0, 1, A), "9");
        house.act(0, 13, 0, 0, 0, 0);
        CHECK.dueText("the enter too", Check.values(house, 0, 1, A), "");
        house.act(0, 14, 0, 0, 0, 0);
        house.act(0, 14, 0, 0, 0, 0);
        CHECK.dueText("both are redone", Check.values(house, 0, 1, A), "");
    }

    private static void maps() {
        AccordHouse house = house();
        house.act(0, 15, 2, 0, 40, 4);
        house.act(0, 15, 2, 0, 3, -7);
        CHECK.dueText("keys", Check.values(house, 0, 2, 0), "3,40");
        CHECK.due("bound to", house.bound(0, 2, 0, 3), -7);
        CHECK.due("by", house.by(0, 2, 0, 1), 3);
        CHECK.dueNoSuch("no key 4", () -> house.bound(0, 2, 0, 4));
        CHECK.dueNoSuch("no key -1", () -> house.bound(0, 2, 0, -1));
        CHECK.dueNoSuch("no key 64", () -> house.bound(0, 2, 0, 64));
        Check.meet(house, 0, 1);
        house.act(0, 16, 2, 0, 3, 0);
        house.tick(1, 1);
        house.act(1, 15, 2, 0, 3, 8);
        Check.meet(house, 0, 1);
        CHECK.due("the last in order counts", house.bound(0, 2, 0, 3), 8);
        CHECK.due("at both", house.bound(1, 2, 0, 3), 8);
        house.act(0, 16, 2, 0, 3, 0);
        CHECK.dueNoSuch("unbound", () -> house.bound(0, 2, 0, 3));
        CHECK.due("one key", house.size(0, 2, 0), 1);
        house.act(0, 13, 0, 0, 0, 0);
        CHECK.due("the unbind is undone", house.bound(0, 2, 0, 3), 8);
        CHECK.due("by its bind", house.by(0, 2, 0, 0), 1001);
    }

    private static void texts() {
        AccordHouse house = house();
        Check.commit(house, 0, 1, T, "ad");
        Check.meet(house, 0, 1);
        house.act(0, 9, 1, T, 'b', 1);
        house.act(0, 9, 1, T, 'c', 2);
        house.act(1, 9, 1, T, 'x', 1);
        house.act(1, 9, 1, T, 'y', 2);
        Check.meet(house, 0, 1);
        CHECK.dueText("the later in order first, with its own", Check.text(house, 0, 1, T), "axybcd");
        CHECK.dueText("at both", Check.text(house, 1, 1, T), "axybcd");
        CHECK.due("by", house.by(0, 1, T, 1), 1001);
        house.act(0, 10, 1, T, 0, 1);
        house.act(1, 10, 1, T, 0, 1);
        Check.meet(house, 0, 1);
        CHECK.dueText("erased by both", Check.text(house, 0, 1, T), "aybcd");
        house.act(0, 13, 0, 0, 0, 0);
        CHECK.dueText("one erase is left", Check.text(house, 0, 1, T), "aybcd");
        house.act(1, 13, 0, 0, 0, 0);
        Check.meet(house, 0, 1);
        CHECK.dueText("none is left", Check.text(house, 0, 1, T), "axybcd");
        CHECK.due("size", house.size(1, 1, T), 6);
    }

    private static void undoneInserts() {
        AccordHouse house = house();
        house.act(0, 9, 1, T, 'a', 0);
        house.act(0, 9, 1, T, 'b', 1);
        house.act(0, 9, 1, T, 'c', 2);
        house.act(0, 13, 0, 0, 0, 0);
        house.act(0, 13, 0, 0, 0, 0);
        CHECK.dueText("two are undone", Check.text(house, 0, 1, T), "a");
        house.act(0, 9, 1, T, 'z', 1);
        house.act(0, 14, 0, 0, 0, 0);
        house.act(0, 14, 0, 0, 0, 0);
        CHECK.dueText("redone where they were", Check.text(house, 0, 1, T), "azbc");
        house.act(1, 9, 1, T, 'q', 0);
        Check.bring(house, 0, 1);
        house.act(1, 9, 1, T, 'r', 4);
        CHECK.dueText("behind b", Check.text(house, 1, 1, T), "qazbrc");
        Check.meet(house, 0, 1);
        CHECK.dueText("at both", Check.text(house, 0, 1, T), "qazbrc");
    }

    private static void parents() {
        AccordHouse house = house();
        house.act(0, 0, 0, 0, 0, 0);
        Check.meet(house, 0, 1);
        house.act(0, 11, 1, 0, 2, 0);
        house.act(1, 11, 2, 0, 1, 0);
        CHECK.due("here 2 is the parent", house.object(0, 1, 2), 2);
        CHECK.due("there 1 is", house.object(1, 2, 2), 1);
        Check.meet(house, 0, 1);
        for (int node = 0; node < 2; node++) {
            CHECK.due("the first in order stays", house.object(node, 1, 2), 2);
            CHECK.due("the later one would be a ring", house.object(node, 2, 2), -1);
            CHECK.due("children", house.object(node, 2, 3), 1);
        }
        house.act(0, 11, 2, 0, 3, 0);
        house.act(0, 11, 3, 0, 1, 0);
        CHECK.due("a longer ring", house.object(0, 3, 2), -1);
        house.act(0, 11, 1, 0, -1, 0);
        house.act(0, 11, 3, 0, 1, 0);
        CHECK.due("no ring any more", house.object(0, 3, 2), 1);
        CHECK.due("and up", house.object(0, 2, 2), 3);
    }

    private static void parentsUndone() {
        AccordHouse house = house();
        house.act(1, 11, 1, 0, 2, 0);
        house.tick(0, 5);
        house.act(0, 11, 2, 0, 1, 0);
        Check.bring(house, 1, 0);
        CHECK.due("a ring", house.object(0, 2, 2), -1);
        house.act(1, 13, 0, 0, 0, 0);
        Check.bring(house, 1, 0);
        CHECK.due("the first move is undone", house.object(0, 1, 2), -1);
        CHECK.due("the second one counts then", house.object(0, 2, 2), 1);
        CHECK.due("news of both", house.node(0, 3), 7);
    }

    private static void droppedOnes() {
        AccordHouse house = house();
        house.act(0, 1, 1, L, 5, 0);
        house.act(0, 11, 1, 0, 2, 0);
        CHECK.due("a child", house.object(0, 2, 3), 1);
        house.act(0, 12, 1, 0, 0, 0);
        CHECK.due("not there", house.object(0, 1, 0), 0);
        CHECK.due("but made", house.object(0, 1, 1), 0);
        CHECK.due("its parts are as told", house.value(0, 1, L, 0), 5);
        CHECK.due("its parent too", house.object(0, 1, 2), 2);
        CHECK.due("it is no child that is there", house.object(0, 2, 3), 0);
        house.act(0, 12, 2, 0, 0, 0);
        CHECK.due("a parent need not be there", house.object(0, 1, 2), 2);
        Check.meet(house, 0, 1);
        CHECK.due("nor there", house.object(1, 1, 0), 0);
        house.act(0, 13, 0, 0, 0, 0);
        house.act(0, 13, 0, 0, 0, 0);
        CHECK.due("there again", house.object(0, 1, 0), 1);
        CHECK.due("a child again", house.object(0, 2, 3), 1);
    }

    private static void holders() {
        AccordHouse house = house();
        house.act(0, 17, 1, 0, 10, 0);
        house.tick(1, 4);
        house.act(1, 17, 1, 0, 50, 0);
        Check.meet(house, 0, 1);
        CHECK.due("the first in order holds", house.object(1, 1, 4), 0);
        CHECK.due("NOW is LAST's time", house.node(0, 9), 4);
        house.tick(0, 9);
        CHECK.due("till 10", house.object(0, 1, 4), 0);
        house.tick(0, 1);
        CHECK.due("the other's claim was nothing", house.object(0, 1, 4), -1);
        house.act(0, 17, 1, 0, 5, 0);
        house.act(0, 17, 1, 0, 3, 0);
        house.tick(0, 4);
        CHECK.due("a shorter one does not shorten", house.object(0, 1, 4), 0);
        house.act(0, 17, 1, 0, 9, 0);
        house.tick(0, 8);
        CHECK.due("a longer one does lengthen", house.object(0, 1, 4), 0);
        house.act(0, 18, 1, 0, 0, 0);
        CHECK.due("released", house.object(0, 1, 4), -1);
        CHECK.due("the other object is free", house.object(0, 2, 4), -1);
        Check.meet(house, 0, 2);
        house.act(2, 17, 1, 0, 1, 0);
        CHECK.due("taken over", house.object(2, 1, 4), 2);
        Check.meet(house, 2, 0);
        CHECK.due("as seen there", house.object(0, 1, 4), 2);
    }
}
