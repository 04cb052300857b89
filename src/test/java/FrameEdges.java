import java.util.ArrayList;
import java.util.List;

/** Promises 13, 15 to 18 and 31: send, lose, twice, octet, bend, frame; FRAMES and WRITTEN. */
final class FrameEdges {
    private static final int LEAST = Integer.MIN_VALUE;
    private static final int MOST = Integer.MAX_VALUE;

    static void add(Edges edges) {
        edges.edge(0, "FRAMES wait in the order in which they were sent, at most 60.", FrameEdges::sixtyWait);
        edges.edge(0, "the VECTOR of the first one (KNOWN then), the CURSORS that it knows", FrameEdges::knownThen);
        edges.edge(0, "and at most 8 ROWS", FrameEdges::eightRows);
        edges.edge(0, "or it is an ASK, without ROWS.", FrameEdges::askWithoutRows);
        edges.edge(0, "those whose number is above SENT and above SEEN of the other one for their NODE",
            FrameEdges::aboveSentAndSeen);
        edges.edge(0, "the first 8 in ORDER", FrameEdges::firstInOrder);
        edges.edge(0, "SENT becomes the number of the last one of each NODE that goes.", FrameEdges::sentBecomes);
        edges.edge(0, "from + 4 * to + 16 of an ASK", FrameEdges::firstByte);
        edges.edge(0, "and if that is not 0 its OBJECT, PART and INSERT as NUMBERS", FrameEdges::cursorBytes);
        edges.edge(0, "a NUMBER: how many ROWS; each: a byte 32 * NODE + sort", FrameEdges::rowBytes);
        edges.edge(0, "A NUMBER x: z is 2 * x, or -2 * x - 1 for x below 0 (without a sign)", FrameEdges::signs);
        edges.edge(0, "in bytes of seven bits, the lowest first, each but the last one with 128 more; as few as can be.",
            FrameEdges::sevenBits);
        edges.edge(0, "then two bytes, the higher one first, the CHECK of all bytes ahead.", FrameEdges::check);
        edges.edge(0, "and, if that is above 65535, exclusive-ored with 69665 (so that 16 bits are left).",
            FrameEdges::sixteenBits);
        edges.edge(0, "A FRAME is BENT while one of its bytes is not as WRITTEN.", FrameEdges::bentWhile);
        edges.edge(13, "A FRAME with ROWS is sent, or (ask) an ASK: true", FrameEdges::sent);
        edges.edge(13, "false if there are no such NODES, they are the same one", FrameEdges::sendToNone);
        edges.edge(13, "or 60 wait.", FrameEdges::noRoomToSend);
        edges.edge(15, "The k-th FRAME that waits is lost: true", FrameEdges::lost);
        edges.edge(15, "false if there is none such.", FrameEdges::loseNone);
        edges.edge(16, "The k-th FRAME that waits waits a second time, behind all: true", FrameEdges::doubled);
        edges.edge(16, "false if there is none such", FrameEdges::doubleNone);
        edges.edge(16, "or 60 wait.", FrameEdges::noRoomToDouble);
        edges.edge(17, "Byte i of the k-th FRAME that waits as it is now", FrameEdges::octetNow);
        edges.edge(17, "i NONE: how many there are.", FrameEdges::howManyOctets);
        edges.edge(17, "NONE if there is none such.", FrameEdges::noOctet);
        edges.edge(18, "is exclusive-ored with by (1 .. 255): true", FrameEdges::bend);
        edges.edge(18, "false, changing nothing, if there is none such, or another by.", FrameEdges::bendNone);
        edges.edge(31, "what 0: from, 1: to, 2: 1 if it is an ASK, else 0, 3: how many ROWS, 4 .. 7: its VECTOR",
            FrameEdges::frameWhats);
        edges.edge(31, "8 + i: the NAME of ROW i.", FrameEdges::frameRows);
        edges.edge(31, "NONE if there is none such, or for another what.", FrameEdges::frameOfNone);
    }

    private static void sixtyWait(Check check) {
        AccordHouse house = Check.houseOfSets(0);
        for (int i = 0; i < 60; i++) {
            check.due("send", house.send(i % 3, 3, i % 5 == 0), true);
            check.due("so many", house.total(2), i + 1);
        }
        for (int k = 0; k < 60; k++) {
            check.due("from", house.frame(k, 0), k % 3);
            check.due("ask", house.frame(k, 2), k % 5 == 0 ? 1 : 0);
        }
        check.due("a 61st one", house.send(0, 1, false), false);
        check.due("sixty", house.total(2), 60);
        house.lose(30);
        check.due("room for one", house.send(0, 1, false), true);
        check.due("it is the last one", house.frame(59, 1), 1);
        check.due("the one ahead stays", house.frame(58, 1), 3);
        check.due("from where it was", house.frame(58, 0), 59 % 3);
        check.due("the next one has gone on", house.frame(30, 0), 31 % 3);
    }

    private static void knownThen(Check check) {
        AccordHouse house = Check.houseOfSets(1);
        house.cursor(0, 1, 1, 0);
        house.send(0, 1, true);
        house.act(0, 1, 1, 0, 5, 0);
        house.cursor(0, 1, 1, 0);
        check.due("the vector as of then", house.frame(0, 4), 2);
        check.due("it is written so", house.octet(0, 1), 4);
        check.due("the cursor as of then", house.octet(0, 5), 2);
        house.deliver(0);
        check.due("it comes so", house.where(1, 0, 0), 1);
        check.due("and is seen so", house.node(1, 20), 2);
    }

    private static void eightRows(Check check) {
        for (int rows = 1; rows <= 17; rows++) {
            AccordHouse house = Check.houseOfSets(rows - 1);
            house.send(0, 1, false);
            house.send(0, 1, false);
            house.send(0, 1, false);
            check.due("the first frame of " + rows, house.frame(0, 3), Math.min(8, rows));
            check.due("the second frame of " + rows, house.frame(1, 3), Math.max(0, Math.min(8, rows - 8)));
            check.due("the third frame of " + rows, house.frame(2, 3), Math.max(0, rows - 16));
        }
    }

    private static void askWithoutRows(Check check) {
        AccordHouse house = Check.houseOfSets(9);
        house.send(0, 1, true);
        check.due("no rows", house.frame(0, 3), 0);
        check.due("no first row", house.frame(0, 8), -1);
        check.due("none went", house.node(0, 44), 0);
        check.due("its length", house.octet(0, -1), 1 + 4 + 4 + 1 + 2);
        check.due("none is applied by it", house.deliver(0), 0);
    }

    private static void aboveSentAndSeen(Check check) {
        AccordHouse house = Check.houseOfSets(4);
        house.send(0, 1, false);
        check.due("above 0", house.frame(0, 3), 5);
        house.send(0, 1, false);
        check.due("not above sent", house.frame(1, 3), 0);
        house.act(0, 1, 1, 0, 9, 0);
        house.send(0, 1, false);
        check.due("1 above sent", house.frame(2, 8), 6);
        house.join(2, 0);
        house.act(0, 1, 1, 0, 10, 0);
        house.send(2, 0, false);
        house.deliver(3);
        check.due("seen of 2", house.node(0, 28), 6);
        house.send(0, 2, false);
        check.due("1 above seen", house.frame(3, 3), 1);
        check.due("that one", house.frame(3, 8), 7);
        house.act(2, 1, 1, 0, 11, 0);
        house.send(2, 3, false);
        check.due("rows of all nodes", house.frame(4, 3), 7);
        check.due("another one's as well", house.frame(4, 14), 2001);
    }

    private static void firstInOrder(Check check) {
        AccordHouse house = new AccordHouse();
        Check.kind(house, "L");
        for (int node = 3; node >= 0; node--) {
            house.tick(node, node == 0 ? 1 : 2);
            house.act(node, 0, 0, 0, 0, 0);
            house.act(node, 1, 1000 * node + 1, 0, 5, 0);
            house.act(node, 1, 1000 * node + 1, 0, 6, 0);
        }
        for (int node = 1; node < 4; node++) {
            Check.bring(house, node, 0);
        }
        house.send(0, 1, false);
        int[] first = {1, 2, 3, 2001, 3001, 2002, 3002, 2003};
        check.dueAll("by time, then count, then node", i -> house.frame(0, 8 + i), first);
        house.send(0, 1, false);
        check.dueAll("what is left", i -> house.frame(1, 8 + i), 3003, -1);
    }

    private static void sentBecomes(Check check) {
        AccordHouse house = Check.houseOfSets(1);
        house.act(1, 0, 0, 0, 0, 0);
        Check.bring(house, 1, 0);
        house.send(0, 2, false);
        check.dueAll("sent to 2", q -> house.node(0, 48 + q), 2, 1, 0, 0);
        check.dueAll("sent to 1", q -> house.node(0, 44 + q), 0, 0, 0, 0);
        check.dueAll("to itself", q -> house.node(0, 40 + q), 0, 0, 0, 0);
        house.send(0, 2, false);
        check.dueAll("a frame without rows", q -> house.node(0, 48 + q), 2, 1, 0, 0);
        house.lose(0);
        check.dueAll("what was lost went", q -> house.node(0, 48 + q), 2, 1, 0, 0);
        AccordHouse nine = Check.houseOfSets(8);
        nine.send(0, 3, false);
        check.due("the last one that goes", nine.node(0, 52), 8);
        nine.send(0, 3, false);
        check.due("the ninth one", nine.node(0, 52), 9);
    }

    private static void firstByte(Check check) {
        AccordHouse house = new AccordHouse();
        for (int from = 0; from < 4; from++) {
            for (int to = 0; to < 4; to++) {
                if (from != to) {
                    house.send(from, to, false);
                    check.due("rows", house.octet(0, 0), from + 4 * to);
                    house.lose(0);
                    house.send(from, to, true);
                    check.due("ask", house.octet(0, 0), from + 4 * to + 16);
                    house.lose(0);
                }
            }
        }
    }

    private static void cursorBytes(Check check) {
        AccordHouse house = new AccordHouse();
        Check.kind(house, "LT");
        house.act(3, 0, 0, 0, 0, 0);
        Check.commit(house, 3, 3001, 1, "a");
        house.send(3, 0, true);
        dueBytes(check, house, 0, 3 + 16, 0, 0, 0, 4, 0, 0, 0, 0, 0);
        house.cursor(3, 3001, 1, 0);
        house.send(3, 0, true);
        dueBytes(check, house, 1, 3 + 16, 0, 0, 0, 4, 0, 0, 0, 2, 242, 46, 2, 0, 0);
        for (int i = 0; i < 63; i++) {
            house.cursor(3, 3001, 1, 1);
        }
        house.send(3, 0, true);
        dueBytes(check, house, 2, 3 + 16, 0, 0, 0, 4, 0, 0, 0, 128, 1, 242, 46, 2, 244, 46, 0);
    }

    /** All bytes but the check, which is worked out here once more. */
    private static void dueBytes(Check check, AccordHouse house, int frame, int... due) {
        check.due("how many", house.octet(frame, -1), due.length + 2);
        check.dueAll("byte", i -> house.octet(frame, i), due);
        int sum = checkOf(due);
        check.due("the higher byte of the check", house.octet(frame, due.length), sum / 256);
        check.due("the lower byte of the check", house.octet(frame, due.length + 1), sum % 256);
    }

    /** By its bits: a bit that goes out at the left turns three others round. */
    private static int checkOf(int[] bytes) {
        int sum = 0xFFFF;
        for (int octet : bytes) {
            for (int bit = 7; bit >= 0; bit--) {
                int out = sum >> 15 ^ octet >> bit & 1;
                sum = sum << 1 & 0xFFFF;
                sum ^= out == 1 ? 1 << 12 | 1 << 5 | 1 : 0;
            }
        }
        return sum;
    }

    private static void rowBytes(Check check) {
        AccordHouse house = new AccordHouse();
        Check.kind(house, "LM");
        house.send(3, 0, false);
        dueBytes(check, house, 0, 3, 0, 0, 0, 0, 0, 0, 0, 0, 0);
        house.act(3, 0, 0, 0, 0, 0);
        house.act(3, 15, 3001, 1, 63, 64);
        house.send(3, 0, false);
        dueBytes(check, house, 1, 3, 0, 0, 0, 4, 0, 0, 0, 0, 4,
            96, 2, 0, 0, 0, 0, 0, 2, 0, 0, 0, 0,
            111, 4, 242, 46, 2, 126, 128, 1, 0, 4, 0, 0, 0, 2);
        AccordHouse eight = Check.houseOfSets(9);
        eight.send(0, 1, false);
        check.due("eight rows", eight.octet(0, 9), 16);
    }

    private static List<Integer> numberOf(int x) {
        List<Integer> bytes = new ArrayList<>();
        long z = x < 0 ? -2L * x - 1 : 2L * x;
        for (; z > 127; z >>= 7) {
            bytes.add((int) (z & 127) + 128);
        }
        bytes.add((int) z);
        return bytes;
    }

    /** The v of a set alone in a frame; ahead of it stand 10 bytes and 4 of its row. */
    private static void dueNumber(Check check, int x, int... due) {
        AccordHouse house = Check.houseOfSets(0);
        house.send(0, 1, false);
        house.lose(0);
        house.act(0, 1, 1, 0, x, 0);
        house.send(0, 1, false);
        check.dueAll("byte of " + x, i -> house.octet(0, 14 + i), due);
        check.due("how many", house.octet(0, -1), 10 + 4 + due.length + 7 + 2);
        List<Integer> again = numberOf(x);
        check.due("as many again", again.size(), due.length);
        for (int i = 0; i < due.length; i++) {
            check.due("the same again", again.get(i), due[i]);
        }
        check.due("it comes", house.deliver(0), 0);
        house.send(1, 0, true);
        house.deliver(0);
        check.due("with its object", house.deliver(0), 2);
        check.due("as it went", house.value(1, 1, 0, 0), x);
    }

    private static void signs(Check check) {
        dueNumber(check, 0, 0);
        dueNumber(check, -1, 1);
        dueNumber(check, 1, 2);
        dueNumber(check, MOST, 254, 255, 255, 255, 15);
        dueNumber(check, LEAST, 255, 255, 255, 255, 15);
        dueNumber(check, LEAST + 1, 253, 255, 255, 255, 15);
    }

    private static void sevenBits(Check check) {
        dueNumber(check, 63, 126);
        dueNumber(check, -64, 127);
        dueNumber(check, 64, 128, 1);
        dueNumber(check, -65, 129, 1);
        dueNumber(check, 8191, 254, 127);
        dueNumber(check, -8192, 255, 127);
        dueNumber(check, 8192, 128, 128, 1);
        dueNumber(check, -8193, 129, 128, 1);
        dueNumber(check, 1048575, 254, 255, 127);
        dueNumber(check, -1048576, 255, 255, 127);
        dueNumber(check, 1048576, 128, 128, 128, 1);
        dueNumber(check, -1048577, 129, 128, 128, 1);
        dueNumber(check, 134217727, 254, 255, 255, 127);
        dueNumber(check, -134217728, 255, 255, 255, 127);
        dueNumber(check, 134217728, 128, 128, 128, 128, 1);
        dueNumber(check, -134217729, 129, 128, 128, 128, 1);
    }

    private static void check(Check check) {
        for (int sets = 0; sets < 8; sets++) {
            AccordHouse house = Check.houseOfSets(sets);
            house.act(0, 1, 1, 0, LEAST + 77 * sets, 0);
            house.send(0, 1 + sets % 3, sets == 5);
            int all = house.octet(0, -1);
            int[] ahead = new int[all - 2];
            for (int i = 0; i < ahead.length; i++) {
                ahead[i] = house.octet(0, i);
            }
            int sum = checkOf(ahead);
            check.due("the higher byte", house.octet(0, all - 2), sum >> 8);
            check.due("the lower byte", house.octet(0, all - 1), sum & 255);
        }
        check.due("the known check of 1 to 9", checkOf(new int[] {49, 50, 51, 52, 53, 54, 55, 56, 57}), 0x29B1);
    }

    /** With these v's c is 32768 once ahead of a doubling, or the check is at an end of its range. */
    private static void sixteenBits(Check check) {
        int[][] due = {{697, 0xDCC0}, {2272, 0xCCC4}, {6165, 0xE5DC}, {7238, 0x62CF}, {8036, 0xB04E}, {8, 0xEA},
            {346, 0x53}, {223, 0x6F00}, {353, 0xF100}, {245, 0xFFC8}, {926, 0xFF03}};
        for (int[] given : due) {
            AccordHouse house = Check.houseOfSets(0);
            house.send(0, 1, false);
            house.lose(0);
            house.act(0, 1, 1, 0, given[0], 0);
            house.send(0, 1, false);
            int all = house.octet(0, -1);
            check.due("the higher byte with " + given[0], house.octet(0, all - 2), given[1] >> 8);
            check.due("the lower byte with " + given[0], house.octet(0, all - 1), given[1] & 255);
        }
    }

    private static void bentWhile(Check check) {
        AccordHouse house = Check.houseOfSets(1);
        house.send(0, 1, false);
        int last = house.octet(0, -1) - 1;
        for (int i = 0; i <= last; i++) {
            house.twice(0);
            house.bend(1, i, 1 + i);
            check.due("one byte is not", house.deliver(1), -2);
            house.twice(0);
            house.bend(1, i, 255);
            house.bend(1, last - i, 1);
            house.bend(1, i, 255);
            check.due("another one is not", house.deliver(1), -2);
        }
        house.bend(0, 3, 96);
        house.bend(0, 3, 3);
        house.bend(0, 3, 99);
        check.due("all are", house.deliver(0), 2);
        check.due("refused", house.total(5), 2 * last + 2);
    }

    private static void sent(Check check) {
        AccordHouse house = Check.houseOfSets(0);
        check.due("rows", house.send(0, 1, false), true);
        check.due("an ask", house.send(0, 1, true), true);
        check.due("a frame without a row left", house.send(0, 1, false), true);
        check.due("one of a node that knows nothing", house.send(3, 2, false), true);
        check.due("four wait", house.total(2), 4);
        check.dueAll("asks", k -> house.frame(k, 2), 0, 1, 0, 0);
        check.dueAll("rows", k -> house.frame(k, 3), 1, 0, 0, 0);
    }

    private static void sendToNone(Check check) {
        AccordHouse house = Check.houseOfSets(0);
        for (int ask = 0; ask < 2; ask++) {
            for (int node : Edges.NO_NODES) {
                check.due("from", house.send(node, 0, ask == 1), false);
                check.due("to", house.send(0, node, ask == 1), false);
                check.due("both", house.send(node, node, ask == 1), false);
            }
            for (int node = 0; node < 4; node++) {
                check.due("to itself", house.send(node, node, ask == 1), false);
            }
        }
        check.due("none waits", house.total(2), 0);
        check.due("none went", house.node(0, 44) + house.node(0, 40), 0);
    }

    private static void noRoomToSend(Check check) {
        AccordHouse house = Check.houseOfSets(0);
        for (int i = 0; i < 60; i++) {
            check.due("send", house.send(1, 2, false), true);
        }
        check.due("rows", house.send(0, 1, false), false);
        check.due("an ask", house.send(0, 1, true), false);
        check.due("none went", house.node(0, 44), 0);
        check.due("sixty", house.total(2), 60);
        house.deliver(0);
        check.due("there is room", house.send(0, 1, false), true);
        check.due("it went now", house.node(0, 44), 1);
    }

    private static void lost(Check check) {
        AccordHouse house = Check.houseOfSets(0);
        for (int to = 1; to < 4; to++) {
            house.send(0, to, false);
        }
        check.due("the last one", house.lose(2), true);
        check.due("the first one", house.lose(0), true);
        check.due("one is left", house.frame(0, 1), 2);
        check.due("the only one", house.lose(0), true);
        check.due("lost", house.total(3), 3);
        check.due("none waits", house.total(2), 0);
        check.due("nothing came", house.node(1, 1) + house.node(2, 1) + house.node(3, 1), 0);
    }

    private static void loseNone(Check check) {
        AccordHouse house = Check.houseOfSets(0);
        check.due("none waits", house.lose(0), false);
        house.send(0, 1, false);
        for (int k : new int[] {1, -1, 60, LEAST, MOST}) {
            check.due("frame " + k, house.lose(k), false);
        }
        check.due("none is lost", house.total(3), 0);
        check.due("one waits", house.total(2), 1);
    }

    private static void doubled(Check check) {
        AccordHouse house = Check.houseOfSets(2);
        house.send(0, 1, false);
        house.send(2, 3, true);
        check.due("twice", house.twice(0), true);
        check.dueAll("behind all", k -> house.frame(k, 1), 1, 3, 1, -1);
        for (int what = 0; what <= 11; what++) {
            check.due("what " + what, house.frame(2, what), house.frame(0, what));
        }
        check.due("an ask too", house.twice(1), true);
        check.dueAll("it is as that one", what -> house.frame(3, what), 2, 3, 1, 0, 0, 0, 0, 0, -1);
        check.due("the second one is delivered", house.deliver(2), 3);
        check.due("then the first one", house.deliver(0), 0);
        check.due("a second time again", house.twice(0) && house.twice(0), true);
        check.due("four asks", house.total(2), 4);
        doubledBytes(check);
    }

    /** With cursors of all nodes, and with a byte that is bent. */
    private static void doubledBytes(Check check) {
        AccordHouse house = Check.houseOfSets(0);
        Check.commit(house, 0, 1, 1, "ab");
        for (int node = 1; node < 4; node++) {
            house.join(node, 0);
            house.cursor(node, 1, 1, node - 1);
            house.send(node, 0, false);
            house.deliver(0);
        }
        house.cursor(0, 1, 1, 2);
        house.act(0, 1, 1, 0, 5, 0);
        house.send(0, 3, false);
        house.twice(0);
        dueSameBytes(check, house);
        house.bend(0, 6, 255);
        house.bend(0, 9, 1);
        house.lose(1);
        house.twice(0);
        dueSameBytes(check, house);
        check.due("the second one is bent too", house.deliver(1), -2);
        house.bend(0, 9, 1);
        house.twice(0);
        dueSameBytes(check, house);
        check.due("by one byte", house.deliver(1), -2);
        house.bend(0, 6, 255);
        house.twice(0);
        house.lose(0);
        check.due("mended", house.deliver(0), 1);
        check.dueAll("its cursors came", m -> house.where(3, m, 3), 2, 0, 1, 2);
    }

    private static void dueSameBytes(Check check, AccordHouse house) {
        for (int i = -1; i <= house.octet(0, -1); i++) {
            check.due("byte " + i, house.octet(1, i), house.octet(0, i));
        }
    }

    private static void doubleNone(Check check) {
        AccordHouse house = Check.houseOfSets(0);
        check.due("none waits", house.twice(0), false);
        house.send(0, 1, false);
        for (int k : new int[] {1, -1, 60, LEAST, MOST}) {
            check.due("frame " + k, house.twice(k), false);
        }
        check.due("one waits", house.total(2), 1);
    }

    private static void noRoomToDouble(Check check) {
        AccordHouse house = Check.houseOfSets(0);
        house.send(0, 1, false);
        for (int i = 2; i <= 60; i++) {
            check.due("twice", house.twice(i - 2), true);
        }
        check.due("a 61st one", house.twice(0), false);
        check.due("of the last one", house.twice(59), false);
        check.due("sixty", house.total(2), 60);
        house.lose(0);
        check.due("room", house.twice(58), true);
        check.due("the rows", house.frame(59, 8), 1);
    }

    private static void octetNow(Check check) {
        AccordHouse house = Check.houseOfSets(0);
        house.send(0, 1, true);
        check.due("the first one", house.octet(0, 0), 20);
        house.bend(0, 0, 255);
        check.due("bent", house.octet(0, 0), 235);
        house.bend(0, 0, 128);
        check.due("bent on", house.octet(0, 0), 107);
        house.bend(0, 1, 255);
        check.due("another one, to more than 127", house.octet(0, 1), 253);
        check.due("how many stays", house.octet(0, -1), 12);
        house.send(0, 2, true);
        house.lose(0);
        check.due("the next one is the first now", house.octet(0, 0), 24);
    }

    private static void howManyOctets(Check check) {
        AccordHouse house = new AccordHouse();
        house.send(0, 1, false);
        check.due("an empty one", house.octet(0, -1), 12);
        AccordHouse full = Check.house("M");
        for (int i = 0; i < 8; i++) {
            full.act(0, 15, 1, 0, 63, LEAST);
        }
        full.send(0, 1, false);
        check.due("a make and seven binds", full.octet(0, -1), 12 + 12 + 7 * 16);
    }

    private static void noOctet(Check check) {
        AccordHouse house = Check.houseOfSets(0);
        check.due("none waits", house.octet(0, 0), -1);
        check.due("how many of none", house.octet(0, -1), -1);
        house.send(0, 1, true);
        check.due("the last one", house.octet(0, 11) >= 0, true);
        check.dueEach("byte", i -> house.octet(0, i), -1, 12, 13, -2, 560, LEAST, MOST);
        check.dueEach("frame", k -> house.octet(k, 0), -1, 1, -1, 60, LEAST, MOST);
        check.dueEach("how many of frame", k -> house.octet(k, -1), -1, 1, -1, 60, LEAST, MOST);
    }

    private static void bend(Check check) {
        AccordHouse house = Check.houseOfSets(0);
        house.send(0, 1, true);
        int last = house.octet(0, -1) - 1;
        for (int by = 1; by <= 255; by++) {
            int was = house.octet(0, last);
            check.due("by " + by, house.bend(0, last, by), true);
            check.due("the last byte", house.octet(0, last), was ^ by);
        }
        check.due("the first byte", house.bend(0, 0, 1), true);
        check.due("it", house.octet(0, 0), 21);
        check.due("the others stay", house.octet(0, 1), 2);
    }

    private static void bendNone(Check check) {
        AccordHouse house = Check.houseOfSets(0);
        check.due("none waits", house.bend(0, 0, 1), false);
        house.send(0, 1, true);
        for (int k : new int[] {1, -1, 60, LEAST, MOST}) {
            check.due("frame " + k, house.bend(k, 0, 1), false);
        }
        for (int i : new int[] {12, -1, -2, 560, LEAST, MOST}) {
            check.due("byte " + i, house.bend(0, i, 1), false);
        }
        for (int by : new int[] {0, 256, 257, -1, -255, LEAST, MOST}) {
            check.due("by " + by, house.bend(0, 0, by), false);
        }
        check.due("as written", house.octet(0, 0), 20);
        check.due("not bent", house.deliver(0), 0);
        check.due("none refused", house.total(5), 0);
    }

    private static void frameWhats(Check check) {
        AccordHouse house = Check.houseOfSets(1);
        house.join(3, 0);
        house.act(3, 1, 1, 0, 5, 0);
        house.send(3, 2, false);
        house.send(3, 1, true);
        check.dueAll("rows", what -> house.frame(0, what), 3, 2, 0, 3, 2, 0, 0, 1);
        check.dueAll("ask", what -> house.frame(1, what), 3, 1, 1, 0, 2, 0, 0, 1);
        house.bend(0, 0, 255);
        check.dueAll("a bent one", what -> house.frame(0, what), 3, 2, 0, 3, 2, 0, 0, 1);
    }

    private static void frameRows(Check check) {
        AccordHouse house = Check.houseOfSets(8);
        house.send(0, 1, false);
        check.dueAll("eight rows", i -> house.frame(0, 8 + i), 1, 2, 3, 4, 5, 6, 7, 8, -1);
        house.send(0, 1, false);
        check.dueAll("the ninth one", i -> house.frame(1, 8 + i), 9, -1);
        house.send(0, 1, true);
        check.dueAll("an ask", i -> house.frame(2, 8 + i), -1, -1);
    }

    private static void frameOfNone(Check check) {
        AccordHouse house = Check.houseOfSets(0);
        check.due("none waits", house.frame(0, 0), -1);
        house.send(0, 1, false);
        check.dueEach("frame", k -> house.frame(k, 0), -1, 1, -1, 60, LEAST, MOST);
        check.due("the last what", house.frame(0, 8), 1);
        check.dueEach("what", what -> house.frame(0, what), -1, -1, 9, 15, 16, 17, LEAST, MOST);
    }

    private FrameEdges() {
    }
}
