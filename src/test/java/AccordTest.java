import java.util.Random;

/**
 * The document's first line: over lines that lose, double and turn frames round,
 * nodes that have the same rows see the same, whatever order these came in.
 * The runs are by fixed seeds, and need no second reading of the document.
 */
public final class AccordTest {
    private static final Check CHECK = new Check();
    private static final String[] KINDS = {"LSCBAT", "MTL"};
    private static final String RULE_OF_SORT = "0LSCBBBAATT0000MM00";
    private static final int RUNS = 60;
    private static final int STEPS = 250;

    private static int otherOrders = 0;
    private static int lost = 0;
    private static int refused = 0;

    private final Random random;
    private final AccordHouse house = Check.everywhere(KINDS);

    private AccordTest(int seed) {
        random = new Random(seed);
    }

    public static void main(String[] args) {
        for (int seed = 0; seed < RUNS; seed++) {
            CHECK.about("seed " + seed);
            AccordTest run = new AccordTest(seed);
            for (int step = 0; step < STEPS; step++) {
                run.step();
            }
            run.settle();
            run.isInAccord();
            run.isWithoutRings();
            run.isWithAll();
            run.isAsItWas();
        }
        CHECK.about("all runs");
        CHECK.due("rows came in other orders in most", otherOrders > RUNS / 2, true);
        CHECK.due("frames were lost", lost > RUNS, true);
        CHECK.due("frames were refused", refused > RUNS, true);
        CHECK.end();
    }

    private int pick(int many) {
        return random.nextInt(many);
    }

    private void step() {
        int node = pick(4);
        switch (pick(12)) {
            case 0:
            case 1:
                house.send(node, (node + 1 + pick(3)) % 4, pick(4) == 0);
                break;
            case 2:
            case 3:
            case 4:
                onLine(pick(1 + house.total(2)));
                break;
            case 5:
                house.tick(node, 1 + pick(6));
                break;
            case 6:
                Check.type(house, "abcba".substring(pick(3), 3 + pick(3)));
                house.commit(node, anyObject(node), pick(2) == 0 ? 5 : 1);
                break;
            default:
                act(node, pick(19));
                break;
        }
    }

    private void onLine(int frame) {
        switch (pick(6)) {
            case 0:
                house.lose(frame);
                break;
            case 1:
                house.twice(frame);
                break;
            case 2:
                house.bend(frame, pick(20), 1 + pick(255));
                break;
            default:
                house.deliver(frame);
                break;
        }
    }

    private int anyObject(int node) {
        int there = house.node(node, 4);
        return there == 0 ? 1 : house.list(node, pick(there));
    }

    /** Mostly one that is not refused; with few makes and drops the nodes change the same objects. */
    private void act(int node, int sort) {
        if ((sort == 0 || sort == 12) && pick(4) > 0) {
            return;
        }
        int object = anyObject(node);
        int kind = house.object(node, object, 1);
        int part = kind < 0 ? 0 : KINDS[kind].indexOf(RULE_OF_SORT.charAt(sort));
        int v = pick(3);
        switch (sort) {
            case 0:
                v = pick(KINDS.length);
                break;
            case 4:
            case 17:
                v = 1 + pick(20);
                break;
            case 9:
                v = 'a' + pick(3);
                break;
            case 11:
                v = pick(4) == 0 ? -1 : anyObject(node);
                break;
            default:
                break;
        }
        house.act(node, sort, object, part, v, pick(4));
    }

    /** All get all from all, twice round, so that each knows what the others know. */
    private void settle() {
        refused += house.total(5);
        while (house.lose(0)) {
            lost++;
        }
        for (int round = 0; round < 2; round++) {
            for (int pair = 0; pair < 16; pair++) {
                if (pair / 4 != pair % 4) {
                    fetch(pair / 4, pair % 4);
                }
            }
        }
        int latest = 0;
        for (int node = 0; node < 4; node++) {
            latest = Math.max(latest, house.node(node, 0));
        }
        for (int node = 0; node < 4; node++) {
            house.tick(node, latest - house.node(node, 0));
        }
    }

    /** One asks another one for rows till nothing comes that it has not. */
    private void fetch(int node, int other) {
        int came = 1;
        for (int i = 0; i < 200 && came > 0; i++) {
            house.send(node, other, true);
            house.deliver(0);
            came = house.deliver(0);
        }
    }

    private void isInAccord() {
        String first = sightOf(0);
        for (int node = 1; node < 4; node++) {
            CHECK.due("rows of node " + node, house.node(node, 1), house.total(4));
            CHECK.dueText("what node " + node + " sees", sightOf(node), first);
            otherOrders += node == 1 && !orderAt(1).equals(orderAt(0)) ? 1 : 0;
        }
        CHECK.due("a node joins one that has the same rows", house.join(3, 0), true);
        CHECK.dueText("what it sees then", sightOf(3), first);
        CHECK.dueText("it has them in the same order then", orderAt(3), orderAt(0));
    }

    private String orderAt(int node) {
        StringBuilder order = new StringBuilder();
        for (int of = 0; of < 4; of++) {
            for (int number = 1; number <= house.node(node, 10 + of); number++) {
                order.append(house.row(node, 1000 * of + number, 9)).append(' ');
            }
        }
        return order.toString();
    }

    /** All that a node sees: the objects and their parts, and how they are ranked. */
    private String sightOf(int node) {
        StringBuilder sight = new StringBuilder();
        for (int of = 0; of < 4; of++) {
            for (int number = 1; number <= house.node(node, 10 + of); number++) {
                int name = 1000 * of + number;
                sight.append(house.row(node, name, 7));
                if (house.row(node, name, 0) == 0) {
                    seeObject(node, name, sight);
                }
            }
        }
        for (int kind = 0; kind < KINDS.length; kind++) {
            int latest = KINDS[kind].indexOf('L');
            for (int k = 0; k < house.count(node, kind, latest, Integer.MIN_VALUE, Integer.MAX_VALUE); k++) {
                sight.append(" rank ").append(house.ranked(node, kind, latest, k));
            }
        }
        return sight.toString();
    }

    private void seeObject(int node, int object, StringBuilder sight) {
        sight.append('\n').append(object).append(':');
        for (int what = 0; what <= 4; what++) {
            sight.append(' ').append(house.object(node, object, what));
        }
        String rules = KINDS[house.object(node, object, 1)];
        for (int part = 0; part < rules.length(); part++) {
            sight.append(' ').append(rules.charAt(part));
            for (int i = 0; i < house.size(node, object, part); i++) {
                int value = house.value(node, object, part, i);
                sight.append(' ').append(value).append('/').append(house.by(node, object, part, i));
                if (rules.charAt(part) == 'M') {
                    sight.append('/').append(house.bound(node, object, part, value));
                }
            }
        }
    }

    private void isWithoutRings() {
        for (int k = 0; k < house.node(0, 4); k++) {
            int at = house.list(0, k);
            for (int steps = 0; steps <= 48 && at >= 0; steps++) {
                at = house.object(0, at, 2);
            }
            CHECK.due("the parents of " + house.list(0, k) + " have an end", at, -1);
        }
    }

    /** What all are known to know is stable, and nobody takes it back. */
    private void isWithAll() {
        for (int node = 0; node < 4; node++) {
            CHECK.due("stable rows of node " + node, house.node(node, 7), house.total(4));
            CHECK.due("an undo of node " + node, house.act(node, 13, 0, 0, 0, 0), -5);
        }
    }

    /** With all rows a part was as it is. */
    private void isAsItWas() {
        for (int node = 0; node < 4; node++) {
            int all = house.node(node, 1);
            CHECK.due("L", house.past(node, all, 1, 0), house.value(node, 1, 0, 0));
            CHECK.due("C", house.past(node, all, 1, 2), house.value(node, 1, 2, 0));
            String text = Check.text(house, node, 1, 5);
            CHECK.due("T", house.was(node, all, 1, 5, -1), text.length());
            for (int i = 0; i < text.length(); i++) {
                CHECK.due("character " + i, house.was(node, all, 1, 5, i), text.charAt(i));
            }
        }
    }
}
