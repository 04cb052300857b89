import java.util.ArrayList;
import java.util.List;

/** The class and the plain one, given the same calls; what differs is kept. */
final class Twins {
    final AccordHouse house = new AccordHouse();
    final PlainHouse plain = new PlainHouse();
    final List<Integer> objects = new ArrayList<>();
    final List<String> told = new ArrayList<>();
    int calls = 0;
    String wrong = null;

    private interface Call {
        long answer();
    }

    /** An exception counts as an answer, by its class. */
    private static String answerOf(Call call) {
        try {
            return Long.toString(call.answer());
        } catch (RuntimeException e) {
            return e.getClass().getName();
        }
    }

    private static int num(boolean answer) {
        return answer ? 1 : 0;
    }

    /** A call that may change something: it is told in the run. */
    private String change(String name, Call mine, Call due, Object... given) {
        String got = look(name, mine, due, given);
        told.add(name + List.of(given) + " = " + got);
        return got;
    }

    private String look(String name, Call mine, Call due, Object... given) {
        calls++;
        String got = answerOf(mine);
        String want = answerOf(due);
        if (!got.equals(want) && wrong == null) {
            wrong = name + List.of(given) + " answered " + got + ", due is " + want;
        }
        return got;
    }

    void type(long word, int n) {
        change("type", () -> num(house.type(word, n)), () -> num(plain.type(word, n)), word, n);
    }

    void typeText(String text) {
        for (int i = 0; i < text.length(); i += 8) {
            String piece = text.substring(i, Math.min(text.length(), i + 8));
            type(Check.wordOf(piece), piece.length());
        }
    }

    void kind() {
        change("kind", house::kind, plain::kind);
        look("fault", house::fault, plain::fault);
    }

    void tick(int node, int by) {
        change("tick", () -> house.tick(node, by), () -> plain.tick(node, by), node, by);
    }

    void act(int node, int sort, int object, int part, int v, int w) {
        String got = change("act", () -> house.act(node, sort, object, part, v, w),
            () -> plain.act(node, sort, object, part, v, w), node, sort, object, part, v, w);
        if (sort == 0 && !got.startsWith("-")) {
            objects.add(Integer.parseInt(got));
        }
    }

    void commit(int node, int object, int part) {
        change("commit", () -> house.commit(node, object, part), () -> plain.commit(node, object, part),
            node, object, part);
    }

    void cursor(int node, int object, int part, int place) {
        change("cursor", () -> num(house.cursor(node, object, part, place)),
            () -> num(plain.cursor(node, object, part, place)), node, object, part, place);
    }

    void stand(int node, int q, int kind, int part, int least, int most) {
        change("stand", () -> num(house.stand(node, q, kind, part, least, most)),
            () -> num(plain.stand(node, q, kind, part, least, most)), node, q, kind, part, least, most);
    }

    void send(int from, int to, boolean ask) {
        change("send", () -> num(house.send(from, to, ask)), () -> num(plain.send(from, to, ask)), from, to, ask);
    }

    void deliver(int k) {
        change("deliver", () -> house.deliver(k), () -> plain.deliver(k), k);
    }

    void lose(int k) {
        change("lose", () -> num(house.lose(k)), () -> num(plain.lose(k)), k);
    }

    void twice(int k) {
        change("twice", () -> num(house.twice(k)), () -> num(plain.twice(k)), k);
    }

    void bend(int k, int i, int by) {
        change("bend", () -> num(house.bend(k, i, by)), () -> num(plain.bend(k, i, by)), k, i, by);
    }

    void join(int node, int other) {
        change("join", () -> num(house.join(node, other)), () -> num(plain.join(node, other)), node, other);
    }

    void calm(int node) {
        change("calm", () -> house.calm(node), () -> plain.calm(node), node);
    }

    /** Looks at all that can be looked at of one node. */
    void lookAtNode(int node) {
        for (int what = -1; what <= 60; what++) {
            int w = what;
            look("node", () -> house.node(node, w), () -> plain.node(node, w), node, w);
        }
        for (int object : objects) {
            lookAtObject(node, object);
        }
        lookAtCursors(node);
        lookAtLists(node);
        lookAtLogs(node);
        lookAtRows(node);
    }

    private void lookAtObject(int node, int object) {
        for (int what = -1; what <= 5; what++) {
            int w = what;
            look("object", () -> house.object(node, object, w), () -> plain.object(node, object, w), node, object, w);
        }
        for (int part = -1; part <= 6; part++) {
            lookAtPart(node, object, part);
        }
    }

    void lookAtPart(int node, int object, int part) {
        look("size", () -> house.size(node, object, part), () -> plain.size(node, object, part), node, object, part);
        int size = plain.size(node, object, part);
        for (int i = -1; i <= size; i++) {
            int at = i;
            look("value", () -> house.value(node, object, part, at), () -> plain.value(node, object, part, at),
                node, object, part, at);
            look("by", () -> house.by(node, object, part, at), () -> plain.by(node, object, part, at),
                node, object, part, at);
        }
        for (int key = -1; key <= 9; key++) {
            int k = key;
            look("bound", () -> house.bound(node, object, part, k), () -> plain.bound(node, object, part, k),
                node, object, part, k);
        }
    }

    /** One part as it was at all times. */
    void lookBack(int node, int object, int part) {
        int all = plain.node(node, 1);
        for (int first = -1; first <= all + 1; first++) {
            int k = first;
            look("past", () -> house.past(node, k, object, part), () -> plain.past(node, k, object, part),
                node, k, object, part);
            int size = plain.was(node, k, object, part, -1);
            for (int i = -2; i <= size; i++) {
                int at = i;
                look("was", () -> house.was(node, k, object, part, at), () -> plain.was(node, k, object, part, at),
                    node, k, object, part, at);
            }
        }
    }

    private void lookAtCursors(int node) {
        for (int m = -1; m <= 4; m++) {
            for (int what = -1; what <= 4; what++) {
                int to = m;
                int w = what;
                look("where", () -> house.where(node, to, w), () -> plain.where(node, to, w), node, to, w);
            }
        }
    }

    private void lookAtLists(int node) {
        for (int q = -1; q <= 4; q++) {
            for (int i = -2; i <= objects.size(); i++) {
                int list = q;
                int at = i;
                look("listed", () -> house.listed(node, list, at), () -> plain.listed(node, list, at), node, list, at);
            }
        }
        for (int k = -1; k <= objects.size(); k++) {
            int at = k;
            look("list", () -> house.list(node, at), () -> plain.list(node, at), node, at);
        }
        for (int kind = -1; kind <= 4; kind++) {
            for (int part = -1; part <= 6; part++) {
                lookAtRanks(node, kind, part);
            }
        }
    }

    private void lookAtRanks(int node, int kind, int part) {
        for (int k = -1; k <= objects.size(); k++) {
            int at = k;
            look("ranked", () -> house.ranked(node, kind, part, at), () -> plain.ranked(node, kind, part, at),
                node, kind, part, at);
        }
        for (int least = -4; least <= 4; least++) {
            int from = least;
            look("count", () -> house.count(node, kind, part, from, from + 2),
                () -> plain.count(node, kind, part, from, from + 2), node, kind, part, from, from + 2);
        }
    }

    private void lookAtLogs(int node) {
        for (int i = -1; i <= plain.node(node, 3); i++) {
            for (int what = -1; what <= 3; what++) {
                int at = i;
                int w = what;
                look("news", () -> house.news(node, at, w), () -> plain.news(node, at, w), node, at, w);
            }
        }
        for (int i = -1; i <= plain.node(node, 8); i++) {
            for (int what = -1; what <= 4; what++) {
                int at = i;
                int w = what;
                look("turned", () -> house.turned(node, at, w), () -> plain.turned(node, at, w), node, at, w);
            }
        }
    }

    private void lookAtRows(int node) {
        for (int of = 0; of < 4; of++) {
            for (int number = 0; number <= plain.node(node, 10 + of) + 1; number++) {
                for (int what = -1; what <= 14; what++) {
                    int name = 1000 * of + number;
                    int w = what;
                    look("row", () -> house.row(node, name, w), () -> plain.row(node, name, w), node, name, w);
                }
            }
        }
    }

    void lookAtLine() {
        for (int k = -1; k <= plain.total(2); k++) {
            int frame = k;
            for (int what = -1; what <= 17; what++) {
                int w = what;
                look("frame", () -> house.frame(frame, w), () -> plain.frame(frame, w), frame, w);
            }
            for (int i = -2; i <= plain.octet(frame, -1); i++) {
                int at = i;
                look("octet", () -> house.octet(frame, at), () -> plain.octet(frame, at), frame, at);
            }
        }
        for (int what = -1; what <= 6; what++) {
            int w = what;
            look("total", () -> house.total(w), () -> plain.total(w), w);
        }
    }
}
