/** Promises 20 to 24: object, size, value, bound, by. */
final class PartEdges {
    private static final int LEAST = Integer.MIN_VALUE;
    private static final int MOST = Integer.MAX_VALUE;
    private static final int[] NO_OBJECTS = {0, -1, 3, 250, 1000, 1001, 4001, LEAST, MOST};
    private static final int[] NO_PARTS = {-1, 6, 7, 8, LEAST, MOST};

    static void add(Edges edges) {
        edges.edge(20, "what 0: 1 if it is THERE, else 0, 1: its KIND", PartEdges::thereAndKind);
        edges.edge(20, "2: its parent (NONE without)", PartEdges::parent);
        edges.edge(20, "3: how many OBJECTS that are THERE have it as their parent", PartEdges::children);
        edges.edge(20, "4: its HOLDER (NONE without).", PartEdges::holder);
        edges.edge(20, "NONE if there is none such, or for another what.", PartEdges::objectOfNone);
        edges.edge(21, "1 of L and C, 5 of B, those of S and A, characters of T, keys of M.", PartEdges::sizes);
        edges.edge(21, "NONE if there is none such.", PartEdges::sizeOfNone);
        edges.edge(22, "Value i of a PART of an OBJECT that is MADE, in the order told.", PartEdges::values);
        edges.edge(22, "NoSuchElementException: there is none such.", PartEdges::valueOfNone);
        edges.edge(23, "What a key of a PART (M) of an OBJECT that is MADE is bound to.", PartEdges::bound);
        edges.edge(23, "NoSuchElementException: there is no such PART", PartEdges::boundOfNone);
        edges.edge(23, "it has another RULE", PartEdges::boundOfAnotherRule);
        edges.edge(23, "or no such key is bound.", PartEdges::noKey);
        edges.edge(24, "of L its SET (0 without), of S its PUT, of T its INSERT, of M its BIND", PartEdges::byRows);
        edges.edge(24, "of A the last one in ORDER of the ENTERS for which it is in the set.", PartEdges::byEnter);
        edges.edge(24, "NONE if there is none such, or of C and B.", PartEdges::byOfNone);
    }

    /** Kinds LSCBAT and M; object 1 is of the first, object 2 of the second one. */
    private static AccordHouse house() {
        return Check.house("LSCBAT", "M");
    }

    /** The same, with a value in each part. */
    private static AccordHouse filled() {
        AccordHouse house = house();
        int[][] acts = {{1, 1, 0, 5, 0}, {2, 1, 1, 6, 0}, {3, 1, 2, 7, 0}, {4, 1, 3, 8, 0}, {7, 1, 4, 9, 0},
            {9, 1, 5, 'a', 0}, {15, 2, 0, 10, 11}};
        for (int[] given : acts) {
            house.act(0, given[0], given[1], given[2], given[3], given[4]);
        }
        return house;
    }

    private static void thereAndKind(Check check) {
        AccordHouse house = house();
        check.due("there", house.object(0, 1, 0), 1);
        check.due("kind 0", house.object(0, 1, 1), 0);
        check.due("kind 1", house.object(0, 2, 1), 1);
        house.act(0, 12, 2, 0, 0, 0);
        check.due("not there", house.object(0, 2, 0), 0);
        check.due("its kind all the same", house.object(0, 2, 1), 1);
    }

    private static void parent(Check check) {
        AccordHouse house = house();
        check.due("without", house.object(0, 1, 2), -1);
        Check.bring(house, 0, 2);
        house.act(0, 11, 1, 0, 2, 0);
        check.due("2", house.object(0, 1, 2), 2);
        check.due("without at another node", house.object(2, 1, 2), -1);
        check.due("without a child there", house.object(2, 2, 3), 0);
        house.send(0, 1, false);
        house.act(0, 11, 1, 0, -1, 0);
        house.deliver(0);
        check.due("2 at another node", house.object(1, 1, 2), 2);
        check.due("without here", house.object(0, 1, 2), -1);
        house.act(0, 13, 0, 0, 0, 0);
        house.act(0, 12, 2, 0, 0, 0);
        check.due("one that is not there", house.object(0, 1, 2), 2);
        house.act(0, 12, 1, 0, 0, 0);
        check.due("of one that is not there", house.object(0, 1, 2), 2);
        house.act(3, 0, 0, 0, 0, 0);
        Check.bring(house, 3, 0);
        house.act(0, 0, 0, 0, 0, 0);
        int made = house.list(0, 0);
        house.act(0, 11, made, 0, 3001, 0);
        check.due("another node's", house.object(0, made, 2), 3001);
    }

    private static void children(Check check) {
        AccordHouse house = house();
        check.due("none", house.object(0, 2, 3), 0);
        for (int i = 3; i <= 12; i++) {
            house.act(0, 0, 0, 0, 0, 0);
        }
        for (int child = 1; child <= 12; child++) {
            house.act(0, 11, child, 0, 2, 0);
        }
        check.due("all but itself", house.object(0, 2, 3), 11);
        house.act(0, 12, 12, 0, 0, 0);
        check.due("without one that is not there", house.object(0, 2, 3), 10);
        house.act(0, 11, 1, 0, 3, 0);
        check.due("without one that has another parent", house.object(0, 2, 3), 9);
        check.due("that one's", house.object(0, 3, 3), 1);
        house.act(0, 12, 2, 0, 0, 0);
        check.due("also of one that is not there", house.object(0, 2, 3), 9);
        check.due("at another node", house.object(1, 2, 3), -1);
    }

    private static void holder(Check check) {
        AccordHouse house = house();
        check.due("without", house.object(0, 1, 4), -1);
        house.act(0, 17, 1, 0, 1, 0);
        check.due("node 0", house.object(0, 1, 4), 0);
        check.due("the other object", house.object(0, 2, 4), -1);
        house.act(0, 12, 1, 0, 0, 0);
        check.due("also of one that is not there", house.object(0, 1, 4), 0);
        house.tick(0, 1);
        check.due("over", house.object(0, 1, 4), -1);
        house.join(3, 0);
        house.act(3, 17, 2, 0, 100, 0);
        check.due("node 3", house.object(3, 2, 4), 3);
        house.act(0, 0, 0, 0, 0, 0);
        house.act(0, 17, 2, 0, 50, 0);
        int next = house.list(0, 1);
        check.due("the next object's first part has nothing of it", house.value(0, next, 0, 0), 0);
        check.due("nor has its own part", house.size(0, 2, 0), 0);
    }

    private static void objectOfNone(Check check) {
        AccordHouse house = house();
        house.act(0, 1, 1, 0, 5, 0);
        for (int what = 0; what <= 4; what++) {
            int w = what;
            check.dueEach("object", object -> house.object(0, object, w), -1, NO_OBJECTS);
            check.dueEach("node", node -> house.object(node, 1, w), -1, Edges.NO_NODES);
            check.due("not made there", house.object(1, 1, w), -1);
        }
        check.dueEach("what", what -> house.object(0, 1, what), -1, -1, 5, 6, LEAST, MOST);
    }

    private static void sizes(Check check) {
        AccordHouse house = house();
        check.dueAll("of a new one: part", part -> house.size(0, 1, part), 1, 0, 1, 5, 0, 0, -1);
        check.due("a map", house.size(0, 2, 0), 0);
        AccordHouse filled = filled();
        check.dueAll("of a filled one: part", part -> filled.size(0, 1, part), 1, 1, 1, 5, 1, 1, -1);
        check.due("a map", filled.size(0, 2, 0), 1);
        filled.act(0, 12, 1, 0, 0, 0);
        check.dueAll("also if it is not there: part", part -> filled.size(0, 1, part), 1, 1, 1, 5, 1, 1, -1);
    }

    private static void sizeOfNone(Check check) {
        AccordHouse house = filled();
        check.dueEach("node", node -> house.size(node, 1, 0), -1, Edges.NO_NODES);
        check.dueEach("object", object -> house.size(0, object, 0), -1, NO_OBJECTS);
        check.dueEach("part", part -> house.size(0, 1, part), -1, NO_PARTS);
        check.due("second part of one", house.size(0, 2, 1), -1);
        check.due("not made there", house.size(1, 1, 0), -1);
    }

    private static void values(Check check) {
        AccordHouse house = filled();
        int[] due = {5, 6, 7, 8, 9, 'a'};
        check.dueAll("part", part -> house.value(0, 1, part, 0), due);
        check.due("a key", house.value(0, 2, 0, 0), 10);
        check.due("the sum of the shares", house.value(0, 1, 3, 4), 8);
        house.act(0, 12, 1, 0, 0, 0);
        check.dueAll("also if it is not there: part", part -> house.value(0, 1, part, 0), due);
        house.join(3, 0);
        check.dueAll("at another node: part", part -> house.value(3, 1, part, 0), due);
    }

    private static void valueOfNone(Check check) {
        AccordHouse house = filled();
        int[] sizes = {1, 1, 1, 5, 1, 1};
        for (int part = 0; part < 6; part++) {
            for (int i : new int[] {sizes[part], -1, LEAST, MOST}) {
                int p = part;
                check.dueNoSuch("value " + i + " of part " + part, () -> house.value(0, 1, p, i));
            }
        }
        for (int i : new int[] {1, -1, LEAST, MOST}) {
            check.dueNoSuch("value " + i + " of a map", () -> house.value(0, 2, 0, i));
        }
        for (int node : Edges.NO_NODES) {
            check.dueNoSuch("node " + node, () -> house.value(node, 1, 0, 0));
        }
        for (int object : NO_OBJECTS) {
            check.dueNoSuch("object " + object, () -> house.value(0, object, 0, 0));
        }
        for (int part : NO_PARTS) {
            check.dueNoSuch("part " + part, () -> house.value(0, 1, part, 0));
        }
        check.dueNoSuch("not made there", () -> house.value(1, 1, 0, 0));
        AccordHouse empty = house();
        for (int part : new int[] {1, 4, 5}) {
            check.dueNoSuch("of an empty part " + part, () -> empty.value(0, 1, part, 0));
        }
        check.dueNoSuch("of an empty map", () -> empty.value(0, 2, 0, 0));
    }

    private static void bound(Check check) {
        AccordHouse house = house();
        house.act(0, 15, 2, 0, 0, LEAST);
        house.act(0, 15, 2, 0, 63, MOST);
        house.act(0, 15, 2, 0, 5, 0);
        check.due("0", house.bound(0, 2, 0, 0), LEAST);
        check.due("63", house.bound(0, 2, 0, 63), MOST);
        check.due("5", house.bound(0, 2, 0, 5), 0);
        house.act(0, 12, 2, 0, 0, 0);
        check.due("also if it is not there", house.bound(0, 2, 0, 63), MOST);
        AccordHouse six = Check.house("L", "MMMMMM");
        for (int part = 0; part < 6; part++) {
            six.act(0, 15, 2, part, 5, 10 + part);
        }
        check.dueAll("part", part -> six.bound(0, 2, part, 5), 10, 11, 12, 13, 14, 15);
    }

    private static void boundOfNone(Check check) {
        AccordHouse house = filled();
        for (int node : Edges.NO_NODES) {
            check.dueNoSuch("node " + node, () -> house.bound(node, 2, 0, 10));
        }
        for (int object : NO_OBJECTS) {
            check.dueNoSuch("object " + object, () -> house.bound(0, object, 0, 10));
        }
        for (int part : new int[] {-1, 1, 5, 6, LEAST, MOST}) {
            check.dueNoSuch("part " + part, () -> house.bound(0, 2, part, 10));
        }
        check.dueNoSuch("not made there", () -> house.bound(1, 2, 0, 10));
        check.due("it is bound", house.bound(0, 2, 0, 10), 11);
    }

    private static void boundOfAnotherRule(Check check) {
        AccordHouse house = filled();
        int[] values = {5, 6, 7, 8, 9, 'a'};
        for (int part = 0; part < 6; part++) {
            int p = part;
            check.dueNoSuch("part " + part, () -> house.bound(0, 1, p, values[p]));
        }
    }

    private static void noKey(Check check) {
        AccordHouse house = filled();
        for (int key : new int[] {0, 9, 11, 63, 64, -1, LEAST, MOST}) {
            check.dueNoSuch("key " + key, () -> house.bound(0, 2, 0, key));
        }
        house.act(0, 16, 2, 0, 10, 0);
        check.dueNoSuch("unbound", () -> house.bound(0, 2, 0, 10));
        house.act(0, 13, 0, 0, 0, 0);
        check.due("that is undone", house.bound(0, 2, 0, 10), 11);
        house.act(0, 13, 0, 0, 0, 0);
        check.dueNoSuch("the bind too", () -> house.bound(0, 2, 0, 10));
    }

    private static void byRows(Check check) {
        AccordHouse house = house();
        check.due("L without", house.by(0, 1, 0, 0), 0);
        AccordHouse filled = filled();
        check.due("L", filled.by(0, 1, 0, 0), 3);
        check.due("S", filled.by(0, 1, 1, 0), 4);
        check.due("T", filled.by(0, 1, 5, 0), 8);
        check.due("M", filled.by(0, 2, 0, 0), 9);
        filled.act(0, 12, 1, 0, 0, 0);
        check.due("also if it is not there", filled.by(0, 1, 0, 0), 3);
        house.act(0, 1, 1, 0, 5, 0);
        house.act(0, 13, 0, 0, 0, 0);
        check.due("L with an undone one alone", house.by(0, 1, 0, 0), 0);
    }

    private static void byEnter(Check check) {
        AccordHouse house = house();
        house.act(0, 7, 1, 4, 9, 0);
        check.due("one", house.by(0, 1, 4, 0), 3);
        house.act(0, 7, 1, 4, 9, 0);
        check.due("the last one of two", house.by(0, 1, 4, 0), 4);
        house.join(1, 0);
        house.act(0, 7, 1, 4, 9, 0);
        house.act(1, 8, 1, 4, 9, 0);
        house.act(1, 7, 1, 4, 9, 0);
        house.tick(0, 1);
        house.act(0, 7, 1, 4, 8, 0);
        Check.bring(house, 1, 0);
        check.due("the last in ORDER of those that the leave did not know", house.by(0, 1, 4, 1), 1002);
        house.act(0, 13, 0, 0, 0, 0);
        house.act(0, 13, 0, 0, 0, 0);
        check.due("still that", house.by(0, 1, 4, 0), 1002);
        house.act(1, 13, 0, 0, 0, 0);
        Check.bring(house, 1, 0);
        check.due("none is left", house.by(0, 1, 4, 0), -1);
    }

    private static void byOfNone(Check check) {
        AccordHouse house = filled();
        check.due("C", house.by(0, 1, 2, 0), -1);
        for (int i = 0; i < 5; i++) {
            check.due("B", house.by(0, 1, 3, i), -1);
        }
        for (int part : new int[] {0, 1, 4, 5}) {
            check.dueEach("value of part " + part, i -> house.by(0, 1, part, i), -1, 1, -1, LEAST, MOST);
        }
        check.dueEach("value of a map", i -> house.by(0, 2, 0, i), -1, 1, -1, LEAST, MOST);
        check.dueEach("node", node -> house.by(node, 1, 0, 0), -1, Edges.NO_NODES);
        check.dueEach("object", object -> house.by(0, object, 0, 0), -1, NO_OBJECTS);
        check.dueEach("part", part -> house.by(0, 1, part, 0), -1, NO_PARTS);
        check.due("not made there", house.by(1, 1, 0, 0), -1);
        AccordHouse empty = house();
        check.dueEach("of an empty part", part -> empty.by(0, 1, part, 0), -1, 1, 4, 5);
        check.due("of an empty map", empty.by(0, 2, 0, 0), -1);
    }

    private PartEdges() {
    }
}
