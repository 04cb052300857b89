/** Promises 13 to 18 and 31: send, deliver, lose, twice, octet, bend, frame. */
public final class FramesTest {
    private static final Check CHECK = new Check();

    public static void main(String[] args) {
        sendRefused();
        eightRowsInOrder();
        whatWasSentIsNotSentAgain();
        whatWasSeenIsNotSent();
        frames();
        deliverRefused();
        loses();
        doubles();
        sixtyFrames();
        bytesOfOneFrame();
        bytesOfNumbers();
        bytesOfCursors();
        bends();
        doubledBends();
        waits();
        thirtyWait();
        turnedRound();
        causesAreWaitedFor();
        asks();
        asksAgain();
        CHECK.end();
    }

    /** Object 1 of kind L, and as many sets of it as told. */
    private static AccordHouse house(int sets) {
        AccordHouse house = new AccordHouse();
        Check.kind(house, "L");
        house.act(0, 0, 0, 0, 0, 0);
        for (int i = 1; i <= sets; i++) {
            house.act(0, 1, 1, 0, i, 0);
        }
        return house;
    }

    private static void sendRefused() {
        AccordHouse house = house(0);
        int[][] wrong = {{-1, 0}, {4, 0}, {0, -1}, {0, 4}, {0, 0}, {3, 3}, {Integer.MIN_VALUE, Integer.MAX_VALUE}};
        for (int[] given : wrong) {
            CHECK.due("send", house.send(given[0], given[1], false), false);
            CHECK.due("ask", house.send(given[0], given[1], true), false);
        }
        CHECK.due("none waits", house.total(2), 0);
        CHECK.due("a frame without rows", house.send(1, 0, false), true);
        CHECK.due("it waits", house.total(2), 1);
        CHECK.due("no rows", house.frame(0, 3), 0);
        CHECK.due("it is delivered", house.deliver(0), 0);
    }

    private static void eightRowsInOrder() {
        AccordHouse house = house(3);
        house.act(1, 0, 0, 0, 0, 0);
        house.act(1, 1, 1001, 0, 7, 0);
        house.act(2, 0, 0, 0, 0, 0);
        Check.bring(house, 1, 0);
        Check.bring(house, 2, 0);
        house.act(0, 1, 1, 0, 9, 0);
        house.act(0, 1, 1, 0, 10, 0);
        house.send(0, 3, false);
        int[] due = {1, 1001, 2001, 2, 1002, 3, 4, 5};
        CHECK.due("eight rows", house.frame(0, 3), 8);
        for (int i = 0; i < 8; i++) {
            CHECK.due("row " + i, house.frame(0, 8 + i), due[i]);
        }
        CHECK.due("no ninth row", house.frame(0, 16), -1);
        CHECK.due("sent of 0", house.node(0, 40 + 12), 5);
        CHECK.due("sent of 1", house.node(0, 40 + 13), 2);
        CHECK.due("sent of 2", house.node(0, 40 + 14), 1);
        house.send(0, 3, false);
        CHECK.due("one is left", house.frame(1, 3), 1);
        CHECK.due("that one", house.frame(1, 8), 6);
        CHECK.due("the second one first: it waits", house.deliver(1), 0);
        CHECK.due("it does", house.node(3, 2), 1);
        CHECK.due("all nine", house.deliver(0), 9);
        CHECK.due("none waits", house.node(3, 2), 0);
    }

    private static void whatWasSentIsNotSentAgain() {
        AccordHouse house = house(4);
        house.send(0, 1, false);
        CHECK.due("five", house.frame(0, 3), 5);
        house.send(0, 1, false);
        CHECK.due("no more", house.frame(1, 3), 0);
        house.send(0, 2, false);
        CHECK.due("to another all", house.frame(2, 3), 5);
        house.lose(0);
        house.act(0, 1, 1, 0, 9, 0);
        house.send(0, 1, false);
        CHECK.due("the new one alone, though the others are lost", house.frame(2, 3), 1);
        CHECK.due("sent", house.node(0, 40 + 4), 6);
        CHECK.due("of itself 0", house.node(0, 40), 0);
    }

    private static void whatWasSeenIsNotSent() {
        AccordHouse house = house(4);
        house.join(1, 0);
        house.send(1, 0, true);
        house.deliver(0);
        CHECK.due("seen of 1", house.node(0, 20 + 4), 5);
        CHECK.due("what the ask told is not sent", house.frame(0, 3), 0);
        house.lose(0);
        house.join(2, 1);
        house.send(2, 0, false);
        CHECK.due("2 knows by 1 what 0 knows", house.frame(0, 3), 0);
        house.deliver(0);
        house.send(0, 2, false);
        CHECK.due("seen by its vector", house.frame(0, 3), 0);
        CHECK.due("sent stays", house.node(0, 40 + 8), 0);
    }

    private static void frames() {
        AccordHouse house = house(1);
        Check.bring(house, 0, 3);
        house.act(3, 1, 1, 0, 5, 0);
        house.send(3, 2, false);
        house.send(3, 1, true);
        int[] due = {3, 2, 0, 3, 2, 0, 0, 1, 1, 2, 3001};
        for (int what = 0; what < due.length; what++) {
            CHECK.due("frame(0, " + what + ")", house.frame(0, what), due[what]);
        }
        CHECK.due("behind the last row", house.frame(0, 11), -1);
        CHECK.due("what -1", house.frame(0, -1), -1);
        CHECK.due("the least what", house.frame(0, Integer.MIN_VALUE), -1);
        CHECK.due("the greatest what", house.frame(0, Integer.MAX_VALUE), -1);
        int[] asked = {3, 1, 1, 0, 2, 0, 0, 1};
        for (int what = 0; what < asked.length; what++) {
            CHECK.due("frame(1, " + what + ")", house.frame(1, what), asked[what]);
        }
        CHECK.due("an ask has no rows", house.frame(1, 8), -1);
        CHECK.due("an ask sends none", house.node(3, 40 + 4), 0);
        CHECK.due("frame -1", house.frame(-1, 0), -1);
        CHECK.due("frame 2", house.frame(2, 0), -1);
        house.act(3, 1, 1, 0, 6, 0);
        CHECK.due("the vector is as of then", house.frame(0, 7), 1);
    }

    private static void deliverRefused() {
        AccordHouse house = house(1);
        CHECK.due("none waits", house.deliver(0), -1);
        house.send(0, 1, false);
        CHECK.due("frame -1", house.deliver(-1), -1);
        CHECK.due("frame 1", house.deliver(1), -1);
        CHECK.due("lose -1", house.lose(-1), false);
        CHECK.due("lose 1", house.lose(1), false);
        CHECK.due("twice -1", house.twice(-1), false);
        CHECK.due("twice 1", house.twice(1), false);
        CHECK.due("octet -1", house.octet(-1, 0), -1);
        CHECK.due("octet 1", house.octet(1, -1), -1);
        CHECK.due("bend -1", house.bend(-1, 0, 1), false);
        CHECK.due("bend 1", house.bend(1, 0, 1), false);
        CHECK.due("none is lost", house.total(3), 0);
        CHECK.due("it waits on", house.total(2), 1);
    }

    private static void loses() {
        AccordHouse house = house(1);
        house.send(0, 1, false);
        house.send(0, 2, false);
        house.send(0, 3, false);
        CHECK.due("lose the middle", house.lose(1), true);
        CHECK.due("lost", house.total(3), 1);
        CHECK.due("two wait", house.total(2), 2);
        CHECK.due("the first", house.frame(0, 1), 1);
        CHECK.due("the last", house.frame(1, 1), 3);
        CHECK.due("delivered is not lost", house.deliver(0), 2);
        CHECK.due("lost", house.total(3), 1);
        CHECK.due("rows were not lost", house.node(2, 1), 0);
    }

    private static void doubles() {
        AccordHouse house = house(1);
        house.send(0, 1, false);
        house.send(0, 2, true);
        CHECK.due("twice", house.twice(0), true);
        CHECK.due("three wait", house.total(2), 3);
        CHECK.due("behind all", house.frame(2, 1), 1);
        for (int what = 0; what < 12; what++) {
            CHECK.due("the same", house.frame(2, what), house.frame(0, what));
        }
        for (int i = -1; i <= house.octet(0, -1); i++) {
            CHECK.due("the same byte", house.octet(2, i), house.octet(0, i));
        }
        CHECK.due("the second one brings all", house.deliver(2), 2);
        CHECK.due("the first one nothing", house.deliver(0), 0);
        CHECK.due("rows", house.node(1, 1), 2);
    }

    private static void sixtyFrames() {
        AccordHouse house = house(1);
        for (int i = 0; i < 59; i++) {
            CHECK.due("send", house.send(0, 1 + i % 3, i % 2 == 0), true);
        }
        CHECK.due("the sixtieth", house.twice(0), true);
        CHECK.due("sixty", house.total(2), 60);
        CHECK.due("no more", house.send(0, 1, false), false);
        CHECK.due("nor an ask", house.send(0, 1, true), false);
        CHECK.due("nor twice", house.twice(0), false);
        CHECK.due("nothing went", house.total(2), 60);
        CHECK.due("an ask makes room for its answer", house.deliver(0), 0);
        CHECK.due("sixty", house.total(2), 60);
        CHECK.due("the answer is the last one", house.frame(59, 0), 1);
        CHECK.due("it goes back", house.frame(59, 1), 0);
        house.lose(59);
        CHECK.due("room", house.send(2, 1, false), true);
        CHECK.due("the last one", house.frame(59, 0), 2);
        for (int i = 0; i < 60; i++) {
            house.lose(0);
        }
        CHECK.due("none", house.total(2), 0);
        CHECK.due("lost", house.total(3), 61);
    }

    private static void dueBytes(AccordHouse house, int frame, int... due) {
        CHECK.due("bytes", house.octet(frame, -1), due.length + 2);
        int check = 0xFFFF;
        for (int i = 0; i < due.length; i++) {
            CHECK.due("byte " + i, house.octet(frame, i), due[i]);
            check ^= due[i] << 8;
            for (int bit = 0; bit < 8; bit++) {
                check = (check & 0x8000) == 0 ? check << 1 : (check << 1 ^ 0x1021) & 0xFFFF;
            }
        }
        CHECK.due("high check", house.octet(frame, due.length), check >> 8);
        CHECK.due("low check", house.octet(frame, due.length + 1), check & 255);
        CHECK.due("behind the last", house.octet(frame, due.length + 2), -1);
        CHECK.due("byte -2", house.octet(frame, -2), -1);
        CHECK.due("the least byte", house.octet(frame, Integer.MIN_VALUE), -1);
    }

    private static void bytesOfOneFrame() {
        AccordHouse house = house(1);
        house.send(2, 1, true);
        dueBytes(house, 0, 2 + 4 + 16, 0, 0, 0, 0, 0, 0, 0, 0, 0);
        house.send(0, 3, false);
        dueBytes(house, 1, 12, 4, 0, 0, 0, 0, 0, 0, 0, 4,
            0, 2, 0, 0, 0, 0, 0, 2, 0, 0, 0, 0,
            1, 4, 2, 0, 2, 0, 0, 4, 2, 0, 0, 0);
        CHECK.due("bytes are as they were then", house.octet(0, 1), 0);
        AccordHouse empty = new AccordHouse();
        empty.send(0, 1, false);
        dueBytes(empty, 0, 4, 0, 0, 0, 0, 0, 0, 0, 0, 0);
    }

    private static void bytesOfNumbers() {
        AccordHouse house = new AccordHouse();
        Check.kind(house, "LM");
        house.act(3, 0, 0, 0, 0, 0);
        house.tick(3, 1000);
        house.act(3, 1, 3001, 0, -1, 0);
        house.act(3, 15, 3001, 1, 63, Integer.MIN_VALUE);
        house.act(3, 15, 3001, 1, 0, Integer.MAX_VALUE);
        house.act(3, 1, 3001, 0, 64, 0);
        house.act(3, 1, 3001, 0, -65, 0);
        house.send(3, 0, false);
        dueBytes(house, 0, 3, 0, 0, 0, 12, 0, 0, 0, 0, 12,
            96, 2, 0, 0, 0, 0, 0, 2, 0, 0, 0, 0,
            97, 4, 242, 46, 0, 1, 0, 208, 15, 0, 0, 0, 0, 2,
            111, 6, 242, 46, 2, 126, 255, 255, 255, 255, 15, 208, 15, 2, 0, 0, 0, 4,
            111, 8, 242, 46, 2, 0, 254, 255, 255, 255, 15, 208, 15, 4, 0, 0, 0, 6,
            97, 10, 242, 46, 0, 128, 1, 0, 208, 15, 6, 0, 0, 0, 8,
            97, 12, 242, 46, 0, 129, 1, 0, 208, 15, 8, 0, 0, 0, 10);
    }

    private static void bytesOfCursors() {
        AccordHouse house = new AccordHouse();
        Check.kind(house, "LT");
        house.act(1, 0, 0, 0, 0, 0);
        house.cursor(1, 1001, 1, 0);
        Check.commit(house, 1, 1001, 1, "a");
        house.cursor(1, 1001, 1, 1);
        house.send(1, 0, true);
        dueBytes(house, 0, 17, 0, 4, 0, 0, 0, 4, 210, 15, 2, 212, 15, 0, 0, 0);
        house.deliver(0);
        house.lose(0);
        house.send(0, 2, true);
        dueBytes(house, 0, 24, 0, 0, 0, 0, 0, 4, 210, 15, 2, 212, 15, 0, 0, 0);
    }

    private static void bends() {
        AccordHouse house = house(1);
        house.send(0, 1, false);
        int last = house.octet(0, -1) - 1;
        CHECK.due("by 0", house.bend(0, 0, 0), false);
        CHECK.due("by 256", house.bend(0, 0, 256), false);
        CHECK.due("by -1", house.bend(0, 0, -1), false);
        CHECK.due("byte -1", house.bend(0, -1, 1), false);
        CHECK.due("behind the last", house.bend(0, last + 1, 1), false);
        CHECK.due("the greatest byte", house.bend(0, Integer.MAX_VALUE, 1), false);
        CHECK.due("still the first byte", house.octet(0, 0), 4);
        CHECK.due("bend the first", house.bend(0, 0, 255), true);
        CHECK.due("bent", house.octet(0, 0), 251);
        CHECK.due("bend it more", house.bend(0, 0, 1), true);
        CHECK.due("bent more", house.octet(0, 0), 250);
        CHECK.due("to where it goes is not bent", house.frame(0, 1), 1);
        CHECK.due("bend it back", house.bend(0, 0, 254), true);
        CHECK.due("as written", house.octet(0, 0), 4);
        CHECK.due("bend the last", house.bend(0, last, 128), true);
        CHECK.due("refused", house.deliver(0), -2);
        CHECK.due("it is gone", house.total(2), 0);
        CHECK.due("refused in all", house.total(5), 1);
        CHECK.due("not lost", house.total(3), 0);
        CHECK.due("nothing was seen", house.node(1, 20), 0);
        house.send(0, 1, true);
        house.bend(0, 3, 1);
        CHECK.due("a bent ask", house.deliver(0), -2);
        CHECK.due("no answer", house.total(2), 0);
        house.send(0, 2, false);
        house.bend(0, 3, 7);
        house.bend(0, 3, 7);
        CHECK.due("bent and back is not bent", house.deliver(0), 2);
        CHECK.due("refused in all", house.total(5), 2);
        house.send(0, 3, false);
        CHECK.due("a frame used again is as written", house.deliver(0), 2);
    }

    private static void doubledBends() {
        AccordHouse house = house(1);
        house.send(0, 1, false);
        house.bend(0, 2, 9);
        house.twice(0);
        CHECK.due("the second one is as bent", house.octet(1, 2), 9);
        house.bend(1, 2, 9);
        CHECK.due("each for itself", house.octet(0, 2), 9);
        CHECK.due("mended", house.octet(1, 2), 0);
        CHECK.due("the first is refused", house.deliver(0), -2);
        CHECK.due("the second is not", house.deliver(0), 2);
    }

    private static void waits() {
        AccordHouse house = house(15);
        house.send(0, 1, false);
        house.send(0, 1, false);
        house.twice(1);
        CHECK.due("not ready", house.deliver(1), 0);
        CHECK.due("eight wait", house.node(1, 2), 8);
        CHECK.due("again", house.deliver(1), 0);
        CHECK.due("still eight", house.node(1, 2), 8);
        CHECK.due("none is applied", house.node(1, 1), 0);
        CHECK.due("seen all the same", house.node(1, 20), 16);
        CHECK.due("a row that waits is not known", house.row(1, 9, 0), -1);
        CHECK.due("all sixteen", house.deliver(0), 16);
        CHECK.due("none waits", house.node(1, 2), 0);
        CHECK.due("the value", house.value(1, 1, 0, 0), 15);
        CHECK.due("the last one", house.row(1, 16, 9), 15);
    }

    private static void thirtyWait() {
        AccordHouse house = house(47);
        for (int i = 0; i < 6; i++) {
            house.send(0, 1, false);
        }
        for (int i = 1; i < 5; i++) {
            house.deliver(1);
        }
        CHECK.due("thirty wait", house.node(1, 2), 30);
        CHECK.due("38 are applied", house.deliver(0), 38);
        CHECK.due("the last ones are not ready", house.deliver(0), 0);
        CHECK.due("they wait", house.node(1, 2), 8);
        house.send(1, 0, true);
        house.deliver(0);
        CHECK.due("the lost ones come again", house.frame(0, 8), 39);
        CHECK.due("eight and two times eight", house.deliver(0), 2 + 8);
        CHECK.due("all", house.node(1, 1), 48);
    }

    /** Of those that wait and are ready the first in ORDER is applied first. */
    private static void turnedRound() {
        AccordHouse house = house(0);
        for (int node = 1; node < 4; node++) {
            house.join(node, 0);
        }
        house.act(0, 1, 1, 0, 1, 0);
        for (int node = 1; node < 3; node++) {
            Check.bring(house, 0, node);
            house.tick(node, 10 - node);
            house.act(node, 1, 1, 0, 10 * node, 0);
            house.send(node, 3, false);
        }
        house.bend(0, 0, 1);
        house.deliver(0);
        house.lose(0);
        house.act(1, 1, 1, 0, 11, 0);
        house.act(2, 1, 1, 0, 21, 0);
        house.send(1, 3, false);
        house.send(2, 3, false);
        CHECK.due("one of node 1", house.frame(0, 3), 1);
        house.deliver(0);
        house.deliver(0);
        CHECK.due("two wait", house.node(3, 2), 2);
        house.send(3, 1, true);
        house.deliver(0);
        CHECK.due("2, 1001, 1002", house.deliver(0), 3);
        house.send(3, 2, true);
        house.deliver(0);
        CHECK.due("2001, 2002", house.deliver(0), 2);
        int[] due = {1, 2, 1001, 1002, 2001, 2002};
        for (int i = 0; i < due.length; i++) {
            CHECK.due("place of " + due[i], house.row(3, due[i], 9), i);
        }
        CHECK.due("the last in ORDER", house.value(3, 1, 0, 0), 11);
    }

    /** A row that is the next one of its node waits for those that its node knew. */
    private static void causesAreWaitedFor() {
        for (int first = 0; first < 3; first++) {
            causeIsMissing(first, (first + 1) % 3);
        }
    }

    private static void causeIsMissing(int first, int second) {
        AccordHouse house = new AccordHouse();
        Check.kind(house, "L");
        int object = house.act(first, 0, 0, 0, 0, 0);
        for (int i = 1; i <= 8; i++) {
            house.act(first, 1, object, 0, i, 0);
        }
        Check.bring(house, first, second);
        house.act(second, 1, object, 0, 77, 0);
        Check.bring(house, second, first);
        house.send(second, 3, false);
        CHECK.due("eight of the first node", house.frame(0, 15), 1000 * first + 8);
        house.send(second, 3, false);
        CHECK.due("the ninth and one of the second node", house.frame(1, 9), 1000 * second + 1);
        CHECK.due("neither is ready", house.deliver(1), 0);
        CHECK.due("both wait", house.node(3, 2), 2);
        CHECK.due("the object is not made", house.object(3, object, 0), -1);
        CHECK.due("all ten", house.deliver(0), 10);
        CHECK.due("the value", house.value(3, object, 0, 0), 77);
    }

    private static void asks() {
        AccordHouse house = house(3);
        house.send(0, 1, false);
        house.lose(0);
        house.send(0, 1, false);
        CHECK.due("nothing more goes", house.frame(0, 3), 0);
        CHECK.due("deliver", house.deliver(0), 0);
        CHECK.due("but what is known is seen", house.node(1, 20), 4);
        CHECK.due("ask", house.send(1, 0, true), true);
        CHECK.due("nothing is applied by an ask", house.deliver(0), 0);
        CHECK.due("one waits", house.total(2), 1);
        CHECK.due("from", house.frame(0, 0), 0);
        CHECK.due("to", house.frame(0, 1), 1);
        CHECK.due("no ask", house.frame(0, 2), 0);
        CHECK.due("all rows", house.frame(0, 3), 4);
        CHECK.due("sent", house.node(0, 44), 4);
        CHECK.due("they are applied", house.deliver(0), 4);
    }

    private static void asksAgain() {
        AccordHouse house = house(11);
        house.send(1, 0, true);
        house.twice(0);
        house.deliver(0);
        house.deliver(0);
        CHECK.due("two answers", house.total(2), 2);
        CHECK.due("sent anew", house.frame(1, 8), 1);
        CHECK.due("eight", house.node(0, 44), 8);
        house.deliver(0);
        house.deliver(0);
        house.send(0, 1, false);
        CHECK.due("four are left", house.deliver(0), 4);
        house.send(1, 0, true);
        house.send(1, 0, false);
        house.act(0, 1, 1, 0, 5, 0);
        CHECK.due("seen by a frame", house.deliver(1), 0);
        CHECK.due("seen", house.node(0, 24), 12);
        CHECK.due("and an ask", house.deliver(0), 0);
        CHECK.due("the new one", house.frame(0, 8), 13);
    }
}
