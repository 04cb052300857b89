import java.util.Random;

/**
 * All promises at once: runs of calls by fixed seeds, given to the class and to
 * a plain reading of the document, with looks at everything between.
 */
public final class AgainstPlainTest {
    private static final String[] KINDS = {"LSCBAT", "MTLA", "L", "TSLMCB", "XL", "CTMLLSB"};
    private static final String RULE_OF_SORT = "0LSCBBBAATT0000MM00";
    private static final int[][] FAVOURITES = {{1, 2, 13, 14}, {4, 5, 6}, {7, 8}, {9, 10}, {11, 11, 0, 12},
        {15, 16}, {17, 18}, {13, 14}, {2, 3, 1}, {9, 13, 14}, {1, 12, 13}};
    private static final int RUNS = 132;

    private final Random random;
    private final Twins twins = new Twins();
    private final int[] favourites;
    private final int nodes;
    private final int most;
    private final int careless;

    private AgainstPlainTest(int seed) {
        random = new Random(seed);
        favourites = FAVOURITES[seed % FAVOURITES.length];
        nodes = 2 + seed / 11 % 3;
        most = seed % 4 == 0 ? 12 : 3;
        careless = seed % 5 == 0 ? 6 : 30;
    }

    public static void main(String[] args) {
        int first = args.length > 0 ? Integer.parseInt(args[0]) : 0;
        int last = args.length > 1 ? Integer.parseInt(args[1]) : RUNS;
        long calls = 0;
        int wrong = 0;
        for (int seed = first; seed < last; seed++) {
            AgainstPlainTest run = new AgainstPlainTest(seed);
            run.go(seed % 5 == 0 ? 500 : 250);
            calls += run.twins.calls;
            if (run.twins.wrong != null) {
                wrong++;
                tell(seed, run.twins);
            }
        }
        System.out.println(calls + " calls, " + wrong + " runs wrong");
        if (wrong > 0) {
            System.exit(1);
        }
    }

    private static void tell(int seed, Twins twins) {
        System.out.println("seed " + seed + ": " + twins.wrong + ", behind");
        for (String call : twins.told) {
            System.out.println("  " + call);
        }
    }

    private void go(int steps) {
        for (String kind : KINDS) {
            twins.typeText(kind);
            twins.kind();
        }
        for (int i = 0; i < 2; i++) {
            twins.act(i, 0, 0, 0, 3 * pick(2), 0);
        }
        twins.stand(0, 1, 0, 0, -1, 2);
        twins.stand(1, 3, 3, 2, 0, 3);
        for (int step = 0; step < steps && twins.wrong == null; step++) {
            step();
            if (step % 60 == 59) {
                twins.lookAtNode(pick(4));
                twins.lookAtLine();
            }
        }
        if (twins.wrong == null) {
            lookAtAll();
        }
    }

    private void lookAtAll() {
        for (int node = 0; node < 4; node++) {
            twins.lookAtNode(node);
        }
        twins.lookAtLine();
        int node = pick(nodes);
        for (int part = -1; part <= 6; part++) {
            twins.lookBack(node, object(), part);
        }
    }

    private int pick(int many) {
        return random.nextInt(many);
    }

    private boolean isCareless() {
        return pick(careless) == 0;
    }

    private int node() {
        return pick(80) == 0 ? pick(7) - 1 : pick(nodes);
    }

    private int object() {
        if (twins.objects.isEmpty() || pick(60) == 0) {
            return pick(3) == 0 ? random.nextInt() : pick(4) * 1000 + pick(6);
        }
        int many = Math.min(most, twins.objects.size());
        return twins.objects.get(twins.objects.size() - 1 - pick(many));
    }

    /** Mostly an object that is there at the node and has a part of the rule. */
    private int objectFor(int node, char rule) {
        int object = object();
        for (int i = 0; i < 20 && !isCareless(); i++) {
            boolean there = twins.plain.object(node, object, 0) == 1;
            if (there && (rule == '0' || partOf(object, rule) >= 0)) {
                return object;
            }
            if (!twins.objects.isEmpty()) {
                object = twins.objects.get(pick(twins.objects.size()));
            }
        }
        return object;
    }

    private int partOf(int object, char rule) {
        for (int node = 0; node < 4; node++) {
            int kind = twins.plain.object(node, object, 1);
            if (kind >= 0) {
                return KINDS[kind].indexOf(rule);
            }
        }
        return -1;
    }

    private int partFor(int object, char rule) {
        int part = partOf(object, rule);
        return part < 0 || isCareless() ? pick(8) - 1 : part;
    }

    private int frameAt() {
        int waiting = twins.plain.total(2);
        int turn = pick(10);
        return turn == 0 ? waiting : waiting == 0 ? 0 : turn < 4 ? pick(waiting) : 0;
    }

    private void step() {
        switch (pick(18)) {
            case 0:
            case 1:
            case 2:
                int from = node();
                int to = pick(10) == 0 ? node() : (from + 1 + pick(nodes - 1)) % nodes;
                twins.send(from, to, pick(6) == 0);
                break;
            case 3:
            case 4:
            case 5:
                twins.deliver(frameAt());
                break;
            case 6:
                onLine();
                break;
            case 7:
            case 8:
                aside();
                break;
            default:
                actOf(sort());
                break;
        }
    }

    private void onLine() {
        int frame = frameAt();
        switch (pick(6)) {
            case 0:
                twins.lose(frame);
                break;
            case 1:
            case 2:
                twins.twice(frame);
                break;
            case 3:
                int at = pick(60) - 1;
                int by = pick(258) - 1;
                twins.bend(frame, at, by);
                if (pick(2) == 0) {
                    twins.bend(frame, at, by);
                }
                break;
            case 4:
                twins.join(node(), node());
                break;
            default:
                twins.send(node(), node(), true);
                break;
        }
    }

    private void aside() {
        int node = node();
        int object = objectFor(node, 'T');
        switch (pick(7)) {
            case 0:
                twins.tick(node, pick(12));
                break;
            case 1:
                int least = pick(9) - 4;
                int kind = pick(4);
                int part = isCareless() ? pick(8) - 1 : KINDS[kind].indexOf('L');
                twins.stand(node, pick(20) == 0 ? 4 : pick(4), kind, part, least, least + pick(5) - 1);
                break;
            case 2:
                if (pick(6) == 0) {
                    twins.calm(node);
                }
                break;
            case 3:
            case 4:
                twins.cursor(node, object, partFor(object, 'T'), pick(6) - (isCareless() ? 1 : 0));
                break;
            default:
                twins.typeText(text());
                twins.commit(node, object, partFor(object, 'T'));
                break;
        }
    }

    private String text() {
        StringBuilder text = new StringBuilder();
        int many = pick(20) == 0 ? 40 : pick(12);
        for (int i = 0; i < many; i++) {
            text.append((char) ('a' + pick(3)));
        }
        return text.toString();
    }

    private int sort() {
        if (pick(2) == 0) {
            return favourites[pick(favourites.length)];
        }
        int sort = pick(60) == 0 ? pick(22) - 1 : pick(12) == 0 ? 0 : 1 + pick(18);
        return sort == 12 && pick(3) > 0 ? 13 : sort;
    }

    private void actOf(int sort) {
        int node = node();
        char rule = sort < 0 || sort > 18 ? '0' : RULE_OF_SORT.charAt(sort);
        int object = objectFor(node, rule);
        int part = partFor(object, rule);
        int v = pick(9) - 2;
        int w = pick(6);
        switch (sort) {
            case 0:
                v = pick(20) == 0 ? pick(8) - 2 : pick(3) == 0 ? pick(4) : 3 * pick(2);
                break;
            case 2:
                v = pick(3);
                break;
            case 4:
                v = pick(8) == 0 ? 999 + pick(3) : 1 + pick(20);
                break;
            case 6:
                w = pick(5) - (isCareless() ? 1 : 0);
                break;
            case 8:
            case 16:
                v = memberOf(node, object, part, v);
                break;
            case 9:
                v = isCareless() ? 30 + pick(100) : 'a' + pick(4);
                w = placeIn(node, object, part);
                break;
            case 10:
                w = placeIn(node, object, part);
                break;
            case 11:
                v = pick(4) == 0 ? -1 : objectFor(node, '0');
                break;
            case 17:
                v = pick(10) == 0 ? 99 + pick(4) : 1 + pick(8);
                break;
            default:
                if (isCareless()) {
                    v = random.nextInt();
                    w = random.nextInt();
                }
                break;
        }
        twins.act(node, sort, object, part, v, w);
    }

    private int memberOf(int node, int object, int part, int other) {
        int size = twins.plain.size(node, object, part);
        return size <= 0 || isCareless() ? other : twins.plain.value(node, object, part, pick(size));
    }

    private int placeIn(int node, int object, int part) {
        int size = Math.max(0, twins.plain.size(node, object, part));
        return isCareless() ? size + pick(3) - 1 : pick(size + 1);
    }
}
