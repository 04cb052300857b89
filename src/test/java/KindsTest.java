/** Promises 1 to 5: a new object, type, kind, fault, tick. */
public final class KindsTest {
    private static final Check CHECK = new Check();

    public static void main(String[] args) {
        newObject();
        typing();
        kinds();
        faults();
        ticks();
        CHECK.end();
    }

    private static void newObject() {
        AccordHouse house = new AccordHouse();
        for (int what = 0; what <= 5; what++) {
            CHECK.due("total of a new one", house.total(what), 0);
        }
        for (int node = 0; node < 4; node++) {
            for (int what = 0; what <= 60; what++) {
                boolean known = what <= 13 || what >= 20 && what <= 35 || what >= 40 && what <= 55;
                CHECK.due("node(" + node + ", " + what + ") of a new one", house.node(node, what), known ? 0 : -1);
            }
            CHECK.due("list of a new one", house.list(node, 0), -1);
            CHECK.due("news of a new one", house.news(node, 0, 0), -1);
            CHECK.due("turned of a new one", house.turned(node, 0, 0), -1);
            for (int m = 0; m < 4; m++) {
                CHECK.due("where 0", house.where(node, m, 0), 0);
                CHECK.due("where 1", house.where(node, m, 1), -1);
            }
        }
        CHECK.due("fault of a new one", house.fault(), -1);
        CHECK.due("act of a new one", house.act(0, 0, 0, 0, 0, 0), -1);
        CHECK.due("frame of a new one", house.frame(0, 0), -1);
        CHECK.due("row of a new one", house.row(0, 1, 0), -1);
        CHECK.due("NONE", AccordHouse.NONE, -1);
    }

    private static void typing() {
        AccordHouse house = new AccordHouse();
        CHECK.due("no bytes", house.type(76, 0), false);
        CHECK.due("nine bytes", house.type(76, 9), false);
        CHECK.due("fewer than none", house.type(76, -1), false);
        CHECK.due("least n", house.type(76, Integer.MIN_VALUE), false);
        CHECK.due("a byte below 32", house.type(0x4C1F, 2), false);
        CHECK.due("a byte above 126", house.type(0x7F4C, 2), false);
        CHECK.due("a byte above 127", house.type(0xFFL, 1), false);
        CHECK.due("a higher byte that is 0", house.type(76, 2), false);
        CHECK.due("nothing was typed", house.total(1), 0);
        CHECK.due("the least and the greatest", house.type(0x207E, 2), true);
        CHECK.due("a byte above those asked for", house.type(0xFF4CL, 1), true);
        CHECK.due("a word with a sign", house.type(-1L, 8), false);
        CHECK.due("three are typed", house.total(1), 3);
        Check.type(house, "0123456789012345678901234567890123456");
        CHECK.due("forty less none", house.total(1), 40);
        CHECK.due("one too many", house.type(76, 1), false);
        CHECK.due("still forty", house.total(1), 40);
        CHECK.dueThrow("forty are no kind", house::kind, IllegalArgumentException.class);
        CHECK.due("the first one is no letter", house.fault(), 0);
        CHECK.due("the tape is empty", house.total(1), 0);
        Check.type(house, "LLLLLLLLLLLLLLLLLLLLLLLLLLLLLLLLL");
        CHECK.due("eight onto 33", house.type(Check.wordOf("LLLLLLLL"), 8), false);
        CHECK.due("seven onto 33", house.type(Check.wordOf("LLLLLLL"), 7), true);
        AccordHouse order = new AccordHouse();
        order.type(Check.wordOf("LSCBATM"), 6);
        CHECK.due("the six lowest", order.kind(), 0);
        order.act(0, 0, 0, 0, 0, 0);
        CHECK.due("the highest first: S", order.size(0, 1, 0), 0);
        CHECK.due("then C", order.size(0, 1, 1), 1);
        CHECK.due("then B", order.size(0, 1, 2), 5);
    }

    private static void kinds() {
        AccordHouse house = new AccordHouse();
        for (int kind = 0; kind < 7; kind++) {
            CHECK.due("kind", Check.kind(house, "LSCBAT"), kind);
        }
        CHECK.due("a kind of one part", Check.kind(house, "M"), 7);
        CHECK.due("eight kinds", house.total(0), 8);
        Check.type(house, "L");
        CHECK.dueThrow("a ninth kind", house::kind, IllegalStateException.class);
        CHECK.due("a ninth one is no fault", house.fault(), -1);
        CHECK.due("its tape is empty", house.total(1), 0);
        Check.type(house, "LX");
        CHECK.dueThrow("no kind is asked first", house::kind, IllegalArgumentException.class);
        CHECK.due("its fault", house.fault(), 1);
        CHECK.due("still eight kinds", house.total(0), 8);
        CHECK.due("all nodes know them", house.act(3, 0, 0, 0, 7, 0), 3001);
        CHECK.due("no such kind", house.act(3, 0, 0, 0, 8, 0), -1);
        CHECK.due("nor this", house.act(3, 0, 0, 0, -1, 0), -1);
    }

    private static void faults() {
        AccordHouse house = new AccordHouse();
        CHECK.dueThrow("an empty tape", house::kind, IllegalArgumentException.class);
        CHECK.due("fault of an empty tape", house.fault(), 0);
        CHECK.due("a kind", Check.kind(house, "LSCBAT"), 0);
        CHECK.due("no fault", house.fault(), -1);
        dueFault(house, "LSCBATM", 6);
        dueFault(house, "LSCBATx", 6);
        dueFault(house, "LSCBATMx", 6);
        dueFault(house, "LSCBAxM", 5);
        dueFault(house, "l", 0);
        dueFault(house, "L S", 1);
        dueFault(house, "LSCBATMLSCBATMLSCBATMLSCBATMLSCBATMLSCBA", 6);
        Check.type(house, "x");
        CHECK.due("typing changes no fault", house.fault(), 6);
        house.commit(0, 1, 5);
        CHECK.due("a commit changes no fault", house.fault(), 6);
        CHECK.due("another kind", Check.kind(house, "T"), 1);
        CHECK.due("no fault again", house.fault(), -1);
    }

    private static void dueFault(AccordHouse house, String tape, int place) {
        Check.type(house, tape);
        CHECK.dueThrow(tape, house::kind, IllegalArgumentException.class);
        CHECK.due("fault of " + tape, house.fault(), place);
        CHECK.due("tape behind " + tape, house.total(1), 0);
    }

    private static void ticks() {
        AccordHouse house = new AccordHouse();
        CHECK.due("tick by 1", house.tick(0, 1), 1);
        CHECK.due("tick by 1000", house.tick(0, 1000), 1001);
        CHECK.due("tick by 0", house.tick(0, 0), -1);
        CHECK.due("tick by 1001", house.tick(0, 1001), -1);
        CHECK.due("tick backwards", house.tick(0, -5), -1);
        CHECK.due("tick by the least", house.tick(0, Integer.MIN_VALUE), -1);
        CHECK.due("no node -1", house.tick(-1, 5), -1);
        CHECK.due("no node 4", house.tick(4, 5), -1);
        CHECK.due("the watch", house.node(0, 0), 1001);
        CHECK.due("NOW", house.node(0, 9), 1001);
        CHECK.due("LAST stays", house.node(0, 5), 0);
        CHECK.due("another's watch", house.node(1, 0), 0);
        CHECK.due("another's tick", house.tick(3, 7), 7);
    }
}
