/** Promises 10, 11, 12 and 25, 26, 27: stand, listed, turned, list, count, ranked. */
final class ListEdges {
    private static final int LEAST = Integer.MIN_VALUE;
    private static final int MOST = Integer.MAX_VALUE;

    static void add(Edges edges) {
        edges.edge(10, "LIST q (0 .. 3) of a NODE stands from now on, in place of the one that did", ListEdges::stands);
        edges.edge(10, "the OBJECTS of a KIND that are THERE whose PART (L) is least .. most.", ListEdges::within);
        edges.edge(10, "False, changing nothing, if there is no such NODE, q, KIND, PART", ListEdges::standOfNone);
        edges.edge(10, "or it has another RULE.", ListEdges::standOfAnotherRule);
        edges.edge(11, "The i-th OBJECT, by NAMES, of a LIST that stands", ListEdges::listedByNames);
        edges.edge(11, "i NONE: how many.", ListEdges::howMany);
        edges.edge(11, "NONE if there is none such (0 for how many of one that does not stand; NONE without such a NODE,"
            + " q).", ListEdges::listedOfNone);
        edges.edge(12, "what 0: the ROW's NAME, 1: which LIST, 2: the OBJECT, 3: 1 if it came, 0 if it went.",
            ListEdges::turnedWhats);
        edges.edge(12, "NONE if there is none such, or for another what.", ListEdges::turnedOfNone);
        edges.edge(25, "The k-th OBJECT that is THERE at a NODE, by NAMES", ListEdges::listByNames);
        edges.edge(25, "NONE if there is none such.", ListEdges::listOfNone);
        edges.edge(26, "How many OBJECTS of a KIND are THERE whose PART (L) is least .. most.", ListEdges::counted);
        edges.edge(26, "NONE if there is no such NODE, KIND, PART, or it has another RULE.", ListEdges::countOfNone);
        edges.edge(27, "by their PART (L), then by NAMES", ListEdges::rankedByValues);
        edges.edge(27, "NONE if there is none such, as for count().", ListEdges::rankedOfNone);
    }

    /** Kinds LSCBAL and M; objects 1, 3, 4 are of the first, 2 is of the second one. */
    private static AccordHouse house() {
        AccordHouse house = Check.house("LSCBAL", "M");
        house.act(0, 0, 0, 0, 0, 0);
        house.act(0, 0, 0, 0, 0, 0);
        return house;
    }

    private static void stands(Check check) {
        AccordHouse house = house();
        for (int q = 0; q < 4; q++) {
            check.due("none does", house.listed(0, q, -1), 0);
            check.due("list " + q, house.stand(0, q, 0, 0, 0, 0), true);
            check.due("it does now", house.listed(0, q, -1), 3);
        }
        check.due("no entries come of it", house.node(0, 8), 0);
        house.act(0, 1, 1, 0, 5, 0);
        check.due("four went", house.node(0, 8), 4);
        check.due("another one", house.stand(0, 2, 0, 0, 5, 5), true);
        check.due("in place of it", house.listed(0, 2, -1), 1);
        check.due("the others stand on", house.listed(0, 1, -1), 2);
        check.due("no entries come of it", house.node(0, 8), 4);
        house.act(0, 1, 1, 0, 0, 0);
        check.dueAll("it went from the new one", what -> house.turned(0, 6, what), 6, 2, 1, 0);
        check.due("another node's do not stand", house.listed(1, 2, -1), 0);
    }

    private static void within(Check check) {
        AccordHouse house = house();
        house.act(0, 1, 1, 0, LEAST, 0);
        house.act(0, 1, 3, 0, MOST, 0);
        house.stand(0, 0, 0, 0, LEAST, LEAST);
        house.stand(0, 1, 0, 0, MOST, MOST);
        house.stand(0, 2, 0, 0, LEAST, MOST);
        house.stand(0, 3, 0, 0, MOST, LEAST);
        check.due("the least alone", house.listed(0, 0, -1), 1);
        check.due("that", house.listed(0, 0, 0), 1);
        check.due("the greatest alone", house.listed(0, 1, 0), 3);
        check.due("all", house.listed(0, 2, -1), 3);
        check.due("none", house.listed(0, 3, -1), 0);
        house.stand(0, 0, 0, 0, -1, 1);
        for (int v = -2; v <= 2; v++) {
            house.act(0, 1, 1, 0, v, 0);
            check.due("with " + v, house.listed(0, 0, 0), v >= -1 && v <= 1 ? 1 : 4);
        }
        house.act(0, 12, 4, 0, 0, 0);
        check.due("one that is not there", house.listed(0, 0, -1), 0);
        house.stand(0, 0, 0, 5, 0, 0);
        check.due("the last part", house.listed(0, 0, -1), 2);
    }

    private static void standOfNone(Check check) {
        AccordHouse house = house();
        house.stand(0, 0, 0, 0, 0, 0);
        for (int node : Edges.NO_NODES) {
            check.due("node", house.stand(node, 0, 0, 0, 5, 5), false);
        }
        for (int q : Edges.NO_NODES) {
            check.due("list", house.stand(0, q, 0, 0, 5, 5), false);
        }
        for (int kind : new int[] {-1, 2, 8, LEAST, MOST}) {
            check.due("kind", house.stand(0, 0, kind, 0, 5, 5), false);
        }
        for (int part : new int[] {-1, 6, LEAST, MOST}) {
            check.due("part", house.stand(0, 0, 0, part, 5, 5), false);
        }
        check.due("second part of one", house.stand(0, 0, 1, 1, 5, 5), false);
        check.due("the old one stands", house.listed(0, 0, -1), 3);
        check.due("no other one does", house.listed(0, 1, -1) + house.listed(0, 2, -1) + house.listed(0, 3, -1), 0);
    }

    private static void standOfAnotherRule(Check check) {
        AccordHouse house = house();
        house.stand(0, 0, 0, 0, 0, 0);
        for (int part = 1; part <= 4; part++) {
            check.due("part " + part, house.stand(0, 0, 0, part, 5, 5), false);
        }
        check.due("a map", house.stand(0, 0, 1, 0, 5, 5), false);
        AccordHouse text = Check.house("T");
        check.due("a text", text.stand(0, 0, 0, 0, 5, 5), false);
        check.due("the old one stands", house.listed(0, 0, -1), 3);
        check.due("another L", house.stand(0, 0, 0, 5, 5, 5), true);
    }

    private static void listedByNames(Check check) {
        AccordHouse house = house();
        house.stand(3, 3, 0, 0, 0, 0);
        house.act(3, 0, 0, 0, 0, 0);
        house.act(2, 0, 0, 0, 0, 0);
        Check.bring(house, 2, 3);
        Check.bring(house, 0, 3);
        int[] due = {1, 3, 4, 2001, 3001};
        check.dueAll("listed", i -> house.listed(3, 3, i), due);
        check.due("how many", house.listed(3, 3, -1), 5);
        AccordHouse full = new AccordHouse();
        Check.kind(full, "L");
        for (int i = 1; i <= 12; i++) {
            full.act(0, 0, 0, 0, 0, 0);
        }
        full.stand(0, 0, 0, 0, 0, 0);
        check.due("the last one of twelve", full.listed(0, 0, 11), 12);
    }

    private static void howMany(Check check) {
        AccordHouse house = house();
        house.stand(0, 0, 0, 0, 7, 7);
        check.due("none", house.listed(0, 0, -1), 0);
        house.act(0, 1, 4, 0, 7, 0);
        check.due("one", house.listed(0, 0, -1), 1);
        house.act(0, 1, 4, 0, 8, 0);
        check.due("none again", house.listed(0, 0, -1), 0);
    }

    private static void listedOfNone(Check check) {
        AccordHouse house = house();
        check.due("how many of one that does not stand", house.listed(0, 0, -1), 0);
        check.due("the first of one that does not stand", house.listed(0, 0, 0), -1);
        house.stand(0, 0, 0, 0, 0, 0);
        check.due("the last one", house.listed(0, 0, 2), 4);
        check.dueEach("i", i -> house.listed(0, 0, i), -1, 3, -2, LEAST, MOST);
        for (int i = -1; i <= 0; i++) {
            int at = i;
            check.dueEach("node", node -> house.listed(node, 0, at), -1, Edges.NO_NODES);
            check.dueEach("q", q -> house.listed(0, q, at), -1, Edges.NO_NODES);
        }
    }

    private static void turnedWhats(Check check) {
        AccordHouse house = house();
        house.stand(0, 3, 0, 0, 1, 9);
        house.stand(0, 0, 0, 0, 0, 0);
        house.act(0, 1, 3, 0, 5, 0);
        check.dueAll("by lists: it went from 0", what -> house.turned(0, 0, what), 5, 0, 3, 0);
        check.dueAll("and came to 3", what -> house.turned(0, 1, what), 5, 3, 3, 1);
        house.act(0, 13, 0, 0, 0, 0);
        check.dueAll("by the undo it came", what -> house.turned(0, 2, what), 6, 0, 3, 1);
        check.dueAll("and went", what -> house.turned(0, 3, what), 6, 3, 3, 0);
        house.act(0, 0, 0, 0, 0, 0);
        check.dueAll("a new one came", what -> house.turned(0, 4, what), 7, 0, 7, 1);
        house.act(0, 12, 7, 0, 0, 0);
        check.dueAll("a dropped one went", what -> house.turned(0, 5, what), 8, 0, 7, 0);
        check.due("six", house.node(0, 8), 6);
    }

    private static void turnedOfNone(Check check) {
        AccordHouse house = house();
        check.due("none", house.turned(0, 0, 0), -1);
        house.stand(0, 0, 0, 0, 1, 1);
        house.act(0, 1, 1, 0, 1, 0);
        check.due("one", house.turned(0, 0, 0), 5);
        check.dueEach("entry", i -> house.turned(0, i, 0), -1, 1, -1, 200, LEAST, MOST);
        check.dueEach("what", what -> house.turned(0, 0, what), -1, -1, 4, LEAST, MOST);
        check.dueEach("node", node -> house.turned(node, 0, 0), -1, Edges.NO_NODES);
        check.due("another node", house.turned(1, 0, 0), -1);
        house.calm(0);
        check.due("none any more", house.turned(0, 0, 0), -1);
    }

    private static void listByNames(Check check) {
        AccordHouse house = house();
        house.act(1, 0, 0, 0, 0, 0);
        house.act(3, 0, 0, 0, 1, 0);
        Check.bring(house, 3, 0);
        Check.bring(house, 1, 0);
        check.dueAll("list", k -> house.list(0, k), 1, 2, 3, 4, 1001, 3001, -1);
        house.act(0, 12, 1, 0, 0, 0);
        house.act(0, 12, 3001, 0, 0, 0);
        check.dueAll("without the dropped ones", k -> house.list(0, k), 2, 3, 4, 1001, -1);
        check.due("how many", house.node(0, 4), 4);
        check.due("its own alone", house.list(1, 0), 1001);
    }

    private static void listOfNone(Check check) {
        AccordHouse none = new AccordHouse();
        check.due("of nothing", none.list(0, 0), -1);
        AccordHouse house = house();
        check.due("the last one", house.list(0, 3), 4);
        check.dueEach("k", k -> house.list(0, k), -1, 4, -1, 48, LEAST, MOST);
        check.dueEach("node", node -> house.list(node, 0), -1, Edges.NO_NODES);
        check.due("of another node", house.list(1, 0), -1);
    }

    private static void counted(Check check) {
        AccordHouse house = house();
        house.act(0, 1, 1, 0, LEAST, 0);
        house.act(0, 1, 3, 0, MOST, 0);
        check.due("all", house.count(0, 0, 0, LEAST, MOST), 3);
        check.due("the least alone", house.count(0, 0, 0, LEAST, LEAST), 1);
        check.due("above the least", house.count(0, 0, 0, LEAST + 1, MOST), 2);
        check.due("the greatest alone", house.count(0, 0, 0, MOST, MOST), 1);
        check.due("below the greatest", house.count(0, 0, 0, LEAST, MOST - 1), 2);
        check.due("between both", house.count(0, 0, 0, LEAST + 1, MOST - 1), 1);
        check.due("least above most", house.count(0, 0, 0, 1, 0), 0);
        check.due("0 alone", house.count(0, 0, 0, 0, 0), 1);
        house.act(0, 12, 4, 0, 0, 0);
        check.due("not there", house.count(0, 0, 0, 0, 0), 0);
        check.due("the last part", house.count(0, 0, 5, 0, 0), 2);
        check.due("another node has none", house.count(3, 0, 0, LEAST, MOST), 0);
    }

    private static void countOfNone(Check check) {
        AccordHouse house = house();
        check.dueEach("node", node -> house.count(node, 0, 0, 0, 0), -1, Edges.NO_NODES);
        check.dueEach("kind", kind -> house.count(0, kind, 0, 0, 0), -1, -1, 2, 8, LEAST, MOST);
        check.dueEach("part", part -> house.count(0, 0, part, 0, 0), -1, -1, 6, LEAST, MOST);
        check.due("second part of one", house.count(0, 1, 1, 0, 0), -1);
        check.dueEach("rule of part", part -> house.count(0, 0, part, 0, 0), -1, 1, 2, 3, 4);
        check.due("a map", house.count(0, 1, 0, 0, 0), -1);
        AccordHouse text = Check.house("T");
        check.due("a text", text.count(0, 0, 0, 0, 0), -1);
    }

    private static void rankedByValues(Check check) {
        AccordHouse house = house();
        check.dueAll("all the same: by names", k -> house.ranked(0, 0, 0, k), 1, 3, 4, -1);
        house.act(0, 1, 1, 0, MOST, 0);
        house.act(0, 1, 4, 0, LEAST, 0);
        check.dueAll("by values", k -> house.ranked(0, 0, 0, k), 4, 3, 1, -1);
        house.act(0, 1, 3, 0, MOST, 0);
        check.dueAll("then by names", k -> house.ranked(0, 0, 0, k), 4, 1, 3, -1);
        house.act(0, 12, 1, 0, 0, 0);
        check.dueAll("those that are there", k -> house.ranked(0, 0, 0, k), 4, 3, -1);
        check.dueAll("by the last part", k -> house.ranked(0, 0, 5, k), 3, 4, -1);
        house.act(0, 1, 4, 5, -1, 0);
        check.dueAll("by its values", k -> house.ranked(0, 0, 5, k), 4, 3, -1);
        house.act(0, 1, 3, 5, -2, 0);
        check.dueAll("as they are then", k -> house.ranked(0, 0, 5, k), 3, 4, -1);
    }

    private static void rankedOfNone(Check check) {
        AccordHouse house = house();
        check.due("the last one", house.ranked(0, 0, 0, 2), 4);
        check.dueEach("k", k -> house.ranked(0, 0, 0, k), -1, 3, -1, LEAST, MOST);
        check.dueEach("node", node -> house.ranked(node, 0, 0, 0), -1, Edges.NO_NODES);
        check.dueEach("kind", kind -> house.ranked(0, kind, 0, 0), -1, -1, 2, 8, LEAST, MOST);
        check.dueEach("part", part -> house.ranked(0, 0, part, 0), -1, -1, 6, LEAST, MOST);
        check.dueEach("rule of part", part -> house.ranked(0, 0, part, 0), -1, 1, 2, 3, 4);
        check.due("a map", house.ranked(0, 1, 0, 0), -1);
        check.due("another node has none", house.ranked(3, 0, 0, 0), -1);
    }

    private ListEdges() {
    }
}
