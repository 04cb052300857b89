import java.util.Arrays;
import java.util.NoSuchElementException;

/**
 * Shared objects, kept in step by four nodes that change them as they like.
 *
 * All rows are written once into one book; a node keeps only which of them it
 * has applied. What it sees is worked out of these rows whenever it is asked
 * for, so that the order in which they came can make no difference.
 */
public final class AccordHouse {
    public static final int NONE = -1;

    private static final int NODES = 4;
    private static final int PAIRS = 16;
    private static final int ROWS_EACH = 250;
    private static final int ROWS = 1000;
    private static final int MAKES_EACH = 12;
    private static final int SLOTS = 48;
    private static final int MOST_KINDS = 8;
    private static final int MOST_PARTS = 6;
    private static final int MOST_TYPED = 40;
    private static final int MOST_WAITS = 30;
    private static final int MOST_FRAMES = 60;
    private static final int MOST_LOADED = 8;
    private static final int MOST_JOINS = 40;
    private static final int MOST_NEWS = 250;
    private static final int MOST_TURNS = 200;
    private static final int KEYS = 64;

    /* A slot has eight chains of rows: its parts', its drops', its claims'. */
    private static final int CHAINS_EACH = 8;
    private static final int DROPS = 6;
    private static final int CLAIMS = 7;
    private static final int MOVES = SLOTS * CHAINS_EACH;
    private static final int CHAINS = MOVES + 1;

    /* What stands in place of a part in the news. */
    private static final int PARENT_NEWS = 6;
    private static final int THERE_NEWS = 7;

    private static final int MAKE = 0;
    private static final int SET = 1;
    private static final int PUT = 2;
    private static final int ADD = 3;
    private static final int ISSUE = 4;
    private static final int SPEND = 5;
    private static final int LEND = 6;
    private static final int ENTER = 7;
    private static final int LEAVE = 8;
    private static final int INSERT = 9;
    private static final int ERASE = 10;
    private static final int MOVE = 11;
    private static final int DROP = 12;
    private static final int UNDO = 13;
    private static final int REDO = 14;
    private static final int BIND = 15;
    private static final int UNBIND = 16;
    private static final int CLAIM = 17;
    private static final int RELEASE = 18;

    private static final String RULES = "LSCBATM";
    private static final char NO_RULE = ' ';
    private static final String RULE_OF_SORT = " LSCBBBAATT    MM  ";

    private final Kinds kinds = new Kinds();
    private final Book book = new Book();
    private final Node[] nodes = new Node[NODES];
    private final Line line = new Line();
    private final View then;
    private final Text text = new Text(book);
    private final Draft draft = new Draft();
    private final int[] ranks = new int[SLOTS];
    private final int[] parents = new int[SLOTS];
    private int joins = 0;

    public AccordHouse() {
        for (int self = 0; self < NODES; self++) {
            nodes[self] = new Node(self, book);
        }
        then = new View(book, nodes[0].ledger, new int[ROWS]);
    }

    public boolean type(long word, int n) {
        return kinds.put(word, n);
    }

    public int kind() throws IllegalArgumentException, IllegalStateException {
        int typed = kinds.takeTape();
        kinds.fault = kinds.faultIn(typed);
        if (kinds.fault != NONE) {
            throw new IllegalArgumentException("the tape is no kind");
        }
        if (kinds.known >= MOST_KINDS) {
            throw new IllegalStateException("there are eight kinds");
        }
        return kinds.enter(typed);
    }

    public int fault() {
        return kinds.fault;
    }

    public int tick(int node, int by) {
        if (!isNode(node) || by < 1 || by > 1000) {
            return NONE;
        }
        nodes[node].watch += by;
        return nodes[node].watch;
    }

    public int act(int node, int sort, int object, int part, int v, int w) {
        int refusal = refusalOf(node, sort, object, part, v);
        if (refusal != 0) {
            return refusal;
        }
        Node actor = nodes[node];
        draft.begin(sort, book.slotOf(object), object, part);
        if (!fits(actor, v, w)) {
            return -5;
        }
        if (!actor.hasRoomFor(sort, 1)) {
            return -4;
        }
        return actor.make(draft).name;
    }

    public int commit(int node, int object, int part) {
        int typed = kinds.takeTape();
        int refusal = refusalOf(node, INSERT, object, part, 0);
        if (refusal != 0) {
            return refusal;
        }
        Node actor = nodes[node];
        draft.begin(INSERT, book.slotOf(object), object, part);
        text.read(actor.now, draft.slot * CHAINS_EACH + part);
        text.compare(kinds.tape, typed);
        int changes = text.length + typed - 2 * text.common(0, 0);
        if (!actor.hasRoomFor(INSERT, changes)) {
            return -4;
        }
        carryOver(actor, typed);
        return changes;
    }

    public boolean cursor(int node, int object, int part, int place) {
        if (refusalOf(node, INSERT, object, part, 0) != 0) {
            return false;
        }
        Node actor = nodes[node];
        text.read(actor.now, book.slotOf(object) * CHAINS_EACH + part);
        if (place < 0 || place > text.length) {
            return false;
        }
        actor.setCursor(object, part, text.nameAhead(place));
        return true;
    }

    public int where(int node, int m, int what) {
        if (!isNode(node) || !isNode(m) || what < 0 || what > 3) {
            return NONE;
        }
        int[] cursors = nodes[node].cursors;
        int times = cursors[4 * m];
        if (what == 0) {
            return times;
        }
        if (times == 0) {
            return NONE;
        }
        return what == 3 ? placeOfCursor(nodes[node], 4 * m) : cursors[4 * m + what];
    }

    public boolean stand(int node, int q, int kind, int part, int least, int most) {
        if (!isNode(node) || q < 0 || q > 3 || kinds.ruleOf(kind, part) != 'L') {
            return false;
        }
        nodes[node].putList(q, kind, part, least, most);
        return true;
    }

    public int listed(int node, int q, int i) {
        if (!isNode(node) || q < 0 || q > 3 || i < NONE) {
            return NONE;
        }
        Node asked = nodes[node];
        int found = 0;
        for (int slot = 0; slot < SLOTS; slot++) {
            if ((asked.listsWith(slot) >> q & 1) == 1) {
                if (found == i) {
                    return book.nameOf(slot);
                }
                found++;
            }
        }
        return i == NONE ? found : NONE;
    }

    public int turned(int node, int i, int what) {
        return isNode(node) ? nodes[node].turns.read(i, what) : NONE;
    }

    public boolean send(int from, int to, boolean ask) {
        if (!isNode(from) || !isNode(to) || from == to || line.isFull()) {
            return false;
        }
        dispatch(from, to, ask);
        return true;
    }

    public int deliver(int k) {
        Frame frame = line.at(k);
        if (frame == null) {
            return NONE;
        }
        line.remove(k);
        if (frame.bent > 0) {
            line.refused++;
            return -2;
        }
        int from = frame.from;
        Node receiver = nodes[frame.to];
        int taken = receiver.receive(frame);
        if (frame.ask) {
            System.arraycopy(frame.vector, 0, receiver.sent, 4 * from, NODES);
            dispatch(receiver.self, from, false);
        }
        return taken;
    }

    public boolean lose(int k) {
        if (line.at(k) == null) {
            return false;
        }
        line.remove(k);
        line.lost++;
        return true;
    }

    public boolean twice(int k) {
        Frame frame = line.at(k);
        if (frame == null || line.isFull()) {
            return false;
        }
        line.open().copyFrom(frame);
        return true;
    }

    public int octet(int k, int i) {
        Frame frame = line.at(k);
        if (frame == null || i < NONE) {
            return NONE;
        }
        frame.write();
        if (i == NONE) {
            return frame.length;
        }
        return i < frame.length ? frame.byteNow(i) : NONE;
    }

    public boolean bend(int k, int i, int by) {
        Frame frame = line.at(k);
        if (frame == null || i < 0 || by < 1 || by > 255) {
            return false;
        }
        frame.write();
        if (i >= frame.length) {
            return false;
        }
        frame.twist(i, by);
        return true;
    }

    public boolean join(int node, int other) {
        if (!isNode(node) || !isNode(other) || node == other || joins >= MOST_JOINS) {
            return false;
        }
        if (!nodes[other].hasAllOf(nodes[node])) {
            return false;
        }
        nodes[node].joinTo(nodes[other]);
        joins++;
        return true;
    }

    public int object(int node, int object, int what) {
        int slot = madeSlot(node, object);
        if (slot < 0) {
            return NONE;
        }
        Node asked = nodes[node];
        switch (what) {
            case 0: return asked.now.isThere(slot) ? 1 : 0;
            case 1: return book.kindOf(slot);
            case 2: return parentOf(asked, slot);
            case 3: return childrenOf(asked, slot);
            case 4: return asked.now.holderOf(slot, asked.timeNow());
            default: return NONE;
        }
    }

    public int size(int node, int object, int part) {
        int slot = madeSlot(node, object);
        char rule = ruleAt(slot, part);
        return rule == NO_RULE ? NONE : findValues(nodes[node].now, slot * CHAINS_EACH + part, rule);
    }

    public int value(int node, int object, int part, int i) throws NoSuchElementException {
        int slot = madeSlot(node, object);
        char rule = ruleAt(slot, part);
        if (rule == NO_RULE || i < 0) {
            throw new NoSuchElementException("no such part or value");
        }
        View now = nodes[node].now;
        int chain = slot * CHAINS_EACH + part;
        if (i >= findValues(now, chain, rule)) {
            throw new NoSuchElementException("no such value");
        }
        if (rule == 'C') {
            return now.sumOf(chain);
        }
        if (rule == 'B') {
            return now.shareOf(chain, i);
        }
        Row source = sourceAt(now, chain, rule, i);
        return source == null ? 0 : source.v;
    }

    public int bound(int node, int object, int part, int key) throws NoSuchElementException {
        int slot = madeSlot(node, object);
        if (ruleAt(slot, part) != 'M') {
            throw new NoSuchElementException("no such map");
        }
        Row source = nodes[node].now.bindOf(slot * CHAINS_EACH + part, key);
        if (source == null) {
            throw new NoSuchElementException("no such key");
        }
        return source.w;
    }

    public int by(int node, int object, int part, int i) {
        int slot = madeSlot(node, object);
        char rule = ruleAt(slot, part);
        if (rule == NO_RULE || rule == 'C' || rule == 'B') {
            return NONE;
        }
        View now = nodes[node].now;
        int chain = slot * CHAINS_EACH + part;
        if (i < 0 || i >= findValues(now, chain, rule)) {
            return NONE;
        }
        Row source = sourceAt(now, chain, rule, i);
        return source == null ? 0 : source.name;
    }

    public int list(int node, int k) {
        if (!isNode(node) || k < 0) {
            return NONE;
        }
        int found = 0;
        for (int slot = 0; slot < SLOTS; slot++) {
            if (nodes[node].now.isThere(slot)) {
                if (found == k) {
                    return book.nameOf(slot);
                }
                found++;
            }
        }
        return NONE;
    }

    public int count(int node, int kind, int part, int least, int most) {
        if (!isNode(node) || kinds.ruleOf(kind, part) != 'L') {
            return NONE;
        }
        View now = nodes[node].now;
        int found = 0;
        for (int slot = 0; slot < SLOTS; slot++) {
            if (now.isThereOf(slot, kind)) {
                int latest = now.latestOf(slot * CHAINS_EACH + part);
                found += latest >= least && latest <= most ? 1 : 0;
            }
        }
        return found;
    }

    public int ranked(int node, int kind, int part, int k) {
        if (!isNode(node) || kinds.ruleOf(kind, part) != 'L') {
            return NONE;
        }
        View now = nodes[node].now;
        int found = 0;
        for (int slot = 0; slot < SLOTS; slot++) {
            if (now.isThereOf(slot, kind)) {
                rankIn(now, found, slot, part);
                found++;
            }
        }
        return k >= 0 && k < found ? book.nameOf(ranks[k]) : NONE;
    }

    public int past(int node, int k, int object, int part) throws NoSuchElementException {
        int slot = madeSlot(node, object);
        char rule = ruleAt(slot, part);
        if (rule != 'L' && rule != 'C') {
            throw new NoSuchElementException("no such part to look back at");
        }
        Ledger ledger = nodes[node].ledger;
        if (k < 0 || k > ledger.applied) {
            throw new NoSuchElementException("no such number of rows");
        }
        then.lookBack(ledger, k);
        int chain = slot * CHAINS_EACH + part;
        return rule == 'L' ? then.latestOf(chain) : then.sumOf(chain);
    }

    public int was(int node, int k, int object, int part, int i) {
        int slot = madeSlot(node, object);
        if (ruleAt(slot, part) != 'T' || i < NONE) {
            return NONE;
        }
        Ledger ledger = nodes[node].ledger;
        if (k < 0 || k > ledger.applied) {
            return NONE;
        }
        then.lookBack(ledger, k);
        text.read(then, slot * CHAINS_EACH + part);
        if (i == NONE) {
            return text.length;
        }
        return i < text.length ? text.shown[i].v : NONE;
    }

    public int row(int node, int name, int what) {
        Row row = isNode(node) ? book.rowNamed(name) : null;
        if (row == null || !nodes[node].ledger.has(row)) {
            return NONE;
        }
        Node asked = nodes[node];
        switch (what) {
            case 0: return row.sort;
            case 1: return row.object;
            case 2: return row.part;
            case 3: return row.v;
            case 4: return row.w;
            case 5: return row.time;
            case 6: return row.count;
            case 7: return asked.now.isGood(row) ? 1 : 0;
            case 8: return asked.isStable(row) ? 1 : 0;
            case 9: return asked.ledger.place[row.index] - 1;
            default: return what >= 10 && what <= 13 ? row.vector[what - 10] : NONE;
        }
    }

    public int frame(int k, int what) {
        Frame frame = line.at(k);
        if (frame == null || what < 0) {
            return NONE;
        }
        switch (what) {
            case 0: return frame.from;
            case 1: return frame.to;
            case 2: return frame.ask ? 1 : 0;
            case 3: return frame.loaded;
            default: break;
        }
        if (what < 8) {
            return frame.vector[what - 4];
        }
        return what - 8 < frame.loaded ? frame.rows[what - 8].name : NONE;
    }

    public int news(int node, int i, int what) {
        return isNode(node) ? nodes[node].news.read(i, what) : NONE;
    }

    public int calm(int node) {
        if (!isNode(node)) {
            return NONE;
        }
        int told = nodes[node].news.entries;
        nodes[node].news.entries = 0;
        nodes[node].turns.entries = 0;
        return told;
    }

    public int node(int node, int what) {
        if (!isNode(node)) {
            return NONE;
        }
        Node asked = nodes[node];
        if (what >= 40 && what < 40 + PAIRS) {
            return asked.sent[what - 40];
        }
        if (what >= 20 && what < 20 + PAIRS) {
            return asked.seen[what - 20];
        }
        if (what >= 10 && what < 10 + NODES) {
            return asked.knownOf(what - 10);
        }
        switch (what) {
            case 0: return asked.watch;
            case 1: return asked.ledger.applied;
            case 2: return asked.waiting;
            case 3: return asked.news.entries;
            case 4: return thereAt(asked);
            case 5: return asked.lastTime;
            case 6: return asked.lastCount;
            case 7: return asked.stableRows();
            case 8: return asked.turns.entries;
            case 9: return asked.timeNow();
            default: return NONE;
        }
    }

    public int total(int what) {
        switch (what) {
            case 0: return kinds.known;
            case 1: return kinds.typed;
            case 2: return line.waiting;
            case 3: return line.lost;
            case 4: return book.rowsInAll();
            case 5: return line.refused;
            default: return NONE;
        }
    }

    private static boolean isNode(int node) {
        return node >= 0 && node < NODES;
    }

    /** The slot of an object that is made at a node, or NONE. */
    private int madeSlot(int node, int object) {
        if (!isNode(node)) {
            return NONE;
        }
        int slot = book.slotOf(object);
        return nodes[node].now.isMade(slot) ? slot : NONE;
    }

    private char ruleAt(int slot, int part) {
        return slot < 0 ? NO_RULE : kinds.ruleOf(book.kindOf(slot), part);
    }

    /** Whether an act is refused with 1, 2 or 3: that number below 0, or 0. */
    private int refusalOf(int node, int sort, int object, int part, int v) {
        if (!isNode(node) || sort < MAKE || sort > RELEASE) {
            return -1;
        }
        if (sort == MAKE) {
            return kinds.has(v) ? 0 : -1;
        }
        if (sort == UNDO || sort == REDO) {
            return 0;
        }
        int slot = madeSlot(node, object);
        if (slot < 0) {
            return -1;
        }
        char due = RULE_OF_SORT.charAt(sort);
        if (due != NO_RULE) {
            char rule = ruleAt(slot, part);
            if (rule != due) {
                return rule == NO_RULE ? -1 : -2;
            }
        }
        View now = nodes[node].now;
        if (!now.isThere(slot)) {
            return -3;
        }
        return sort == MOVE && v != NONE && !now.isThere(book.slotOf(v)) ? -3 : 0;
    }

    /** Whether an act's numbers are as told of its sort; the draft gets them. */
    private boolean fits(Node actor, int v, int w) {
        switch (draft.sort) {
            case INSERT:
                return fitsInsert(actor, v, w);
            case ERASE:
                return fitsErase(actor, w);
            case UNDO:
                draft.w = actor.undoable();
                return draft.w >= 0;
            case REDO:
                draft.w = actor.redoable();
                return draft.w >= 0;
            case BIND:
                draft.v = v;
                draft.w = w;
                return isKey(v);
            case LEND:
                draft.v = v;
                draft.w = w;
                return isNode(w) && w != actor.self && isOwned(actor, v);
            case DROP:
                return true;
            case RELEASE:
                return actor.now.holderOf(draft.slot, actor.timeNow()) == actor.self;
            default:
                draft.v = v;
                return fitsByValue(actor, v);
        }
    }

    /** The sorts of which v alone is told. */
    private boolean fitsByValue(Node actor, int v) {
        int chain = draft.slot * CHAINS_EACH + draft.part;
        switch (draft.sort) {
            case ISSUE:
                return v >= 1 && v <= 1000;
            case SPEND:
                return isOwned(actor, v);
            case ENTER:
                return isKey(v);
            case LEAVE:
                return actor.now.enterOf(chain, v) != null;
            case UNBIND:
                return actor.now.bindOf(chain, v) != null;
            case CLAIM:
                int holder = actor.now.holderOf(draft.slot, actor.timeNow());
                return v >= 1 && v <= 100 && (holder == NONE || holder == actor.self);
            default:
                return true;
        }
    }

    private static boolean isKey(int v) {
        return v >= 0 && v < KEYS;
    }

    private boolean isOwned(Node actor, int v) {
        int chain = draft.slot * CHAINS_EACH + draft.part;
        return v >= 1 && v <= 1000 && v <= actor.now.shareOf(chain, actor.self);
    }

    private boolean fitsInsert(Node actor, int v, int place) {
        if (v < 32 || v > 126 || place < 0) {
            return false;
        }
        text.read(actor.now, draft.slot * CHAINS_EACH + draft.part);
        if (place > text.length) {
            return false;
        }
        draft.v = v;
        draft.w = text.nameAhead(place);
        return true;
    }

    private boolean fitsErase(Node actor, int place) {
        text.read(actor.now, draft.slot * CHAINS_EACH + draft.part);
        if (place < 0 || place >= text.length) {
            return false;
        }
        draft.w = text.shown[place].name;
        return true;
    }

    /** Makes the rows that turn the text that was read into what was typed. */
    private void carryOver(Node actor, int typed) {
        int i = 0;
        int j = 0;
        int behind = 0;
        int steps = text.length + typed;
        for (int step = 0; step < steps && (i < text.length || j < typed); step++) {
            if (text.isSame(i, j) && text.common(i, j) == 1 + text.common(i + 1, j + 1)) {
                behind = text.shown[i].name;
                i++;
                j++;
            } else if (i < text.length && text.common(i, j) == text.common(i + 1, j)) {
                draft.sort = ERASE;
                draft.v = 0;
                draft.w = text.shown[i].name;
                actor.make(draft);
                i++;
            } else {
                draft.sort = INSERT;
                draft.v = kinds.tape[j];
                draft.w = behind;
                behind = actor.make(draft).name;
                j++;
            }
        }
    }

    private int placeOfCursor(Node asked, int at) {
        int slot = book.slotOf(asked.cursors[at + 1]);
        if (!asked.now.isMade(slot)) {
            return NONE;
        }
        int insert = asked.cursors[at + 3];
        if (insert == 0) {
            return 0;
        }
        Row row = book.rowNamed(insert);
        if (row == null || !asked.ledger.has(row)) {
            return NONE;
        }
        text.read(asked.now, row.chain);
        return text.standingUpTo(row);
    }

    private void dispatch(int from, int to, boolean ask) {
        Frame frame = line.open();
        frame.begin(nodes[from], to, ask);
        if (!ask) {
            nodes[from].load(frame);
        }
    }

    private int parentOf(Node asked, int slot) {
        asked.now.findParents(parents);
        int parent = parents[slot];
        return parent == 0 ? NONE : book.nameOf(parent - 1);
    }

    private int childrenOf(Node asked, int slot) {
        asked.now.findParents(parents);
        int found = 0;
        for (int child = 0; child < SLOTS; child++) {
            if (parents[child] == slot + 1 && asked.now.isThere(child)) {
                found++;
            }
        }
        return found;
    }

    private static int thereAt(Node asked) {
        int found = 0;
        for (int slot = 0; slot < SLOTS; slot++) {
            if (asked.now.isThere(slot)) {
                found++;
            }
        }
        return found;
    }

    /** How many values a part has; they are kept where they are found. */
    private int findValues(View now, int chain, char rule) {
        if (rule == 'S') {
            return now.findSeveral(chain);
        }
        if (rule == 'B') {
            return NODES + 1;
        }
        if (rule == 'A' || rule == 'M') {
            return now.findKeys(chain, rule);
        }
        if (rule == 'T') {
            text.read(now, chain);
            return text.length;
        }
        return 1;
    }

    /** The row of value i of those that were found; null of an L without one. */
    private Row sourceAt(View now, int chain, char rule, int i) {
        if (rule == 'S') {
            return now.several[i];
        }
        if (rule == 'A' || rule == 'M') {
            return now.keyAt(i);
        }
        return rule == 'T' ? text.shown[i] : now.lastGood(chain);
    }

    /** Puts a slot among the first ranks, behind all whose part is no greater. */
    private void rankIn(View now, int ranked, int slot, int part) {
        int own = now.latestOf(slot * CHAINS_EACH + part);
        int at = ranked;
        for (; at > 0; at--) {
            int ahead = ranks[at - 1];
            if (now.latestOf(ahead * CHAINS_EACH + part) <= own) {
                break;
            }
            ranks[at] = ahead;
        }
        ranks[at] = slot;
    }

    /** What a row is to be; one is used for all. */
    private static final class Draft {
        int sort;
        int slot;
        int object;
        int part;
        int v;
        int w;

        /* What is given beside what a sort needs is 0 in the row. */
        void begin(int newSort, int newSlot, int newObject, int newPart) {
            boolean alone = newSort == MAKE || newSort == UNDO || newSort == REDO;
            sort = newSort;
            slot = alone ? 0 : newSlot;
            object = alone ? 0 : newObject;
            part = RULE_OF_SORT.charAt(newSort) == NO_RULE ? 0 : newPart;
            v = 0;
            w = 0;
        }
    }

    /** A change, which is the same one at all nodes and never changes itself. */
    private static final class Row {
        final int sort;
        final int slot;
        final int object;
        final int part;
        final int v;
        final int w;
        final int node;
        final int number;
        final int time;
        final int count;
        final int[] vector;
        final int name;
        final int index;
        final int chain;

        Row(Draft draft, int node, int number, int time, int count, int[] vector) {
            this.sort = draft.sort;
            this.slot = draft.slot;
            this.object = draft.object;
            this.part = draft.part;
            this.v = draft.v;
            this.w = draft.w;
            this.node = node;
            this.number = number;
            this.time = time;
            this.count = count;
            this.vector = vector;
            this.name = 1000 * node + number;
            this.index = ROWS_EACH * node + number - 1;
            this.chain = chainFor(draft);
        }

        /* Moves are one chain for all objects, as rings go through several. */
        private static int chainFor(Draft draft) {
            switch (draft.sort) {
                case MAKE:
                case UNDO:
                case REDO:
                    return NONE;
                case MOVE:
                    return MOVES;
                case DROP:
                    return draft.slot * CHAINS_EACH + DROPS;
                case CLAIM:
                case RELEASE:
                    return draft.slot * CHAINS_EACH + CLAIMS;
                default:
                    return draft.slot * CHAINS_EACH + draft.part;
            }
        }

        boolean isBefore(Row other) {
            if (time != other.time) {
                return time < other.time;
            }
            if (count != other.count) {
                return count < other.count;
            }
            return node < other.node;
        }

        boolean turnsAnother() {
            return sort == UNDO || sort == REDO;
        }
    }

    /** The tape, and the kinds by their parts' letters. */
    private static final class Kinds {
        final char[] tape = new char[MOST_TYPED];
        int typed = 0;
        int known = 0;
        int fault = NONE;
        private final char[] letters = new char[MOST_KINDS * MOST_PARTS];
        private final int[] parts = new int[MOST_KINDS];

        boolean put(long word, int n) {
            if (n < 1 || n > 8 || typed + n > MOST_TYPED) {
                return false;
            }
            for (int i = 0; i < n; i++) {
                int letter = byteOf(word, i);
                if (letter < 32 || letter > 126) {
                    return false;
                }
            }
            for (int i = n - 1; i >= 0; i--) {
                tape[typed] = (char) byteOf(word, i);
                typed++;
            }
            return true;
        }

        private static int byteOf(long word, int i) {
            return (int) (word >>> (8 * i)) & 255;
        }

        /** Empties the tape, whose characters stay till others are typed. */
        int takeTape() {
            int taken = typed;
            typed = 0;
            return taken;
        }

        int faultIn(int taken) {
            if (taken == 0) {
                return 0;
            }
            int end = Math.min(taken, MOST_PARTS);
            for (int i = 0; i < end; i++) {
                if (RULES.indexOf(tape[i]) < 0) {
                    return i;
                }
            }
            return taken > MOST_PARTS ? MOST_PARTS : NONE;
        }

        int enter(int taken) {
            int number = known;
            System.arraycopy(tape, 0, letters, number * MOST_PARTS, taken);
            parts[number] = taken;
            known++;
            return number;
        }

        boolean has(int number) {
            return number >= 0 && number < known;
        }

        char ruleOf(int number, int part) {
            if (!has(number) || part < 0 || part >= parts[number]) {
                return NO_RULE;
            }
            return letters[number * MOST_PARTS + part];
        }
    }

    /** All rows that were made, and the objects; slots are in order of names. */
    private static final class Book {
        final Row[] rows = new Row[ROWS];
        private final Row[] makes = new Row[SLOTS];
        private final int[] rowsOf = new int[NODES];
        private final int[] makesOf = new int[NODES];

        Row rowNamed(int name) {
            if (name < 1 || name > 1000 * (NODES - 1) + ROWS_EACH) {
                return null;
            }
            int number = name % 1000;
            if (number < 1 || number > ROWS_EACH) {
                return null;
            }
            return rows[name / 1000 * ROWS_EACH + number - 1];
        }

        int slotOf(int object) {
            Row make = rowNamed(object);
            return make != null && make.sort == MAKE ? make.slot : NONE;
        }

        Row makeOf(int slot) {
            return slot >= 0 && slot < SLOTS ? makes[slot] : null;
        }

        int nameOf(int slot) {
            Row make = makeOf(slot);
            return make == null ? NONE : make.name;
        }

        int kindOf(int slot) {
            Row make = makeOf(slot);
            return make == null ? NONE : make.v;
        }

        int rowsInAll() {
            return rowsOf[0] + rowsOf[1] + rowsOf[2] + rowsOf[3];
        }

        boolean hasRoom(int node, int sort, int more) {
            if (rowsOf[node] + more > ROWS_EACH) {
                return false;
            }
            return sort != MAKE || makesOf[node] < MAKES_EACH;
        }

        int nextSlot(int node) {
            return node * MAKES_EACH + makesOf[node];
        }

        void add(Row row) {
            rows[row.index] = row;
            rowsOf[row.node] = row.number;
            if (row.sort == MAKE) {
                makes[row.slot] = row;
                makesOf[row.node]++;
            }
        }
    }

    /** Which rows a node has applied; those of one chain are linked in ORDER. */
    private static final class Ledger {
        final int[] came = new int[ROWS];
        final int[] place = new int[ROWS];
        final int[] undone = new int[ROWS];
        final Row[] older = new Row[ROWS];
        final Row[] newer = new Row[ROWS];
        final Row[] oldest = new Row[CHAINS];
        final Row[] newest = new Row[CHAINS];
        int applied = 0;
        private final Book book;

        Ledger(Book book) {
            this.book = book;
        }

        boolean has(Row row) {
            return place[row.index] > 0;
        }

        void take(Row row) {
            if (has(row)) {
                return;
            }
            came[applied] = row.index;
            applied++;
            place[row.index] = applied;
            mark(row, undone);
            if (row.chain >= 0) {
                link(row);
            }
        }

        /* A row's own node alone undoes it, so that the latest one to come counts. */
        void mark(Row row, int[] marks) {
            if (!row.turnsAnother()) {
                return;
            }
            Row target = book.rowNamed(row.w);
            if (target != null) {
                marks[target.index] = row.sort == UNDO ? 1 : 0;
            }
        }

        /* From the newest one down, as most rows come late in ORDER. */
        private void link(Row row) {
            Row above = null;
            Row below = newest[row.chain];
            while (below != null && row.isBefore(below)) {
                above = below;
                below = older[below.index];
            }
            older[row.index] = below;
            newer[row.index] = above;
            if (below == null) {
                oldest[row.chain] = row;
            } else {
                newer[below.index] = row;
            }
            if (above == null) {
                newest[row.chain] = row;
            } else {
                older[above.index] = row;
            }
        }

        void copyFrom(Ledger other) {
            applied = other.applied;
            System.arraycopy(other.came, 0, came, 0, ROWS);
            System.arraycopy(other.place, 0, place, 0, ROWS);
            System.arraycopy(other.undone, 0, undone, 0, ROWS);
            for (int i = 0; i < ROWS; i++) {
                older[i] = other.older[i];
                newer[i] = other.newer[i];
            }
            for (int i = 0; i < CHAINS; i++) {
                oldest[i] = other.oldest[i];
                newest[i] = other.newest[i];
            }
        }
    }

    /** What is seen by the first rows of a ledger: all of them, or some. */
    private static final class View {
        final Row[] several = new Row[NODES];
        private final Book book;
        private final int[] undone;
        private final int[] knew = new int[NODES];
        private final int[] left = new int[KEYS * NODES];
        private final Row[] keyed = new Row[KEYS];
        private final int[] shares = new int[NODES + 1];
        private Ledger ledger;
        private int upTo = ROWS;

        View(Book book, Ledger ledger, int[] undone) {
            this.book = book;
            this.ledger = ledger;
            this.undone = undone;
        }

        void lookBack(Ledger at, int first) {
            ledger = at;
            upTo = first;
            Arrays.fill(undone, 0);
            for (int i = 0; i < first; i++) {
                at.mark(book.rows[at.came[i]], undone);
            }
        }

        boolean isApplied(Row row) {
            int place = ledger.place[row.index];
            return place > 0 && place <= upTo;
        }

        boolean isGood(Row row) {
            int place = ledger.place[row.index];
            return place > 0 && place <= upTo && undone[row.index] == 0;
        }

        boolean isMade(int slot) {
            Row make = book.makeOf(slot);
            return make != null && isApplied(make);
        }

        boolean isThere(int slot) {
            return isMade(slot) && lastGood(slot * CHAINS_EACH + DROPS) == null;
        }

        boolean isThereOf(int slot, int kind) {
            return isThere(slot) && book.kindOf(slot) == kind;
        }

        Row lastGood(int chain) {
            for (Row row = ledger.newest[chain]; row != null; row = ledger.older[row.index]) {
                if (isGood(row)) {
                    return row;
                }
            }
            return null;
        }

        int latestOf(int chain) {
            Row row = lastGood(chain);
            return row == null ? 0 : row.v;
        }

        int sumOf(int chain) {
            int sum = 0;
            for (Row row = ledger.newest[chain]; row != null; row = ledger.older[row.index]) {
                if (isGood(row)) {
                    sum += row.v;
                }
            }
            return sum;
        }

        private void findShares(int chain) {
            Arrays.fill(shares, 0);
            for (Row row = ledger.newest[chain]; row != null; row = ledger.older[row.index]) {
                if (isGood(row)) {
                    shares[row.node] += row.sort == ISSUE ? row.v : -row.v;
                    if (row.sort == LEND) {
                        shares[row.w] += row.v;
                    }
                }
            }
            shares[NODES] = shares[0] + shares[1] + shares[2] + shares[3];
        }

        /** The share of a node, or with 4 the sum of all. */
        int shareOf(int chain, int i) {
            findShares(chain);
            return shares[i];
        }

        /** Fills several; a put knew all earlier ones of its node, so four do. */
        int findSeveral(int chain) {
            gatherKnown(chain);
            int found = 0;
            for (Row row = ledger.oldest[chain]; row != null; row = ledger.newer[row.index]) {
                if (found < NODES && isGood(row) && row.number > knew[row.node]) {
                    several[found] = row;
                    found++;
                }
            }
            return found;
        }

        private void gatherKnown(int chain) {
            Arrays.fill(knew, 0);
            for (Row row = ledger.newest[chain]; row != null; row = ledger.older[row.index]) {
                if (isGood(row)) {
                    raise(knew, 0, row.vector);
                }
            }
        }

        private static void raise(int[] knew, int start, int[] vector) {
            for (int q = 0; q < NODES; q++) {
                if (vector[q] > knew[start + q]) {
                    knew[start + q] = vector[q];
                }
            }
        }

        /** Fills keyed with the rows by which the keys of a set or map are in it. */
        int findKeys(int chain, char rule) {
            if (rule == 'A') {
                findMembers(chain);
            } else {
                findBinds(chain);
            }
            int found = 0;
            for (int key = 0; key < KEYS; key++) {
                found += keyed[key] == null ? 0 : 1;
            }
            return found;
        }

        private void forgetKeys() {
            for (int key = 0; key < KEYS; key++) {
                keyed[key] = null;
            }
        }

        private void findMembers(int chain) {
            forgetKeys();
            Arrays.fill(left, 0);
            for (Row row = ledger.newest[chain]; row != null; row = ledger.older[row.index]) {
                if (row.sort == LEAVE && isGood(row)) {
                    raise(left, NODES * row.v, row.vector);
                }
            }
            for (Row row = ledger.oldest[chain]; row != null; row = ledger.newer[row.index]) {
                if (row.sort == ENTER && isGood(row) && row.number > left[NODES * row.v + row.node]) {
                    keyed[row.v] = row;
                }
            }
        }

        private void findBinds(int chain) {
            forgetKeys();
            for (Row row = ledger.oldest[chain]; row != null; row = ledger.newer[row.index]) {
                if (isGood(row)) {
                    keyed[row.v] = row.sort == BIND ? row : null;
                }
            }
        }

        /** The i-th of the rows that findKeys found. */
        Row keyAt(int i) {
            int found = 0;
            for (int key = 0; key < KEYS; key++) {
                if (keyed[key] != null) {
                    if (found == i) {
                        return keyed[key];
                    }
                    found++;
                }
            }
            return null;
        }

        /** The last of the enters for which v is in a set, or null. */
        Row enterOf(int chain, int v) {
            if (!isKey(v)) {
                return null;
            }
            findMembers(chain);
            return keyed[v];
        }

        /** The bind by which a key is bound, or null. */
        Row bindOf(int chain, int key) {
            for (Row row = ledger.newest[chain]; row != null; row = ledger.older[row.index]) {
                if (row.v == key && isGood(row)) {
                    return row.sort == BIND ? row : null;
                }
            }
            return null;
        }

        boolean stands(Row insert) {
            if (!isGood(insert)) {
                return false;
            }
            for (Row row = ledger.newest[insert.chain]; row != null; row = ledger.older[row.index]) {
                if (row.sort == ERASE && row.w == insert.name && isGood(row)) {
                    return false;
                }
            }
            return true;
        }

        int holderOf(int slot, int time) {
            int holder = NONE;
            int till = 0;
            int chain = slot * CHAINS_EACH + CLAIMS;
            for (Row row = ledger.oldest[chain]; row != null; row = ledger.newer[row.index]) {
                boolean held = holder != NONE && row.time < till;
                if (row.sort == RELEASE) {
                    till = held && holder == row.node ? row.time : till;
                } else if (!held) {
                    holder = row.node;
                    till = row.time + row.v;
                } else if (holder == row.node) {
                    till = Math.max(till, row.time + row.v);
                }
            }
            return holder != NONE && time < till ? holder : NONE;
        }

        /** Fills in, by slots, the slot of each one's parent and 1; 0 without. */
        void findParents(int[] parents) {
            Arrays.fill(parents, 0);
            for (Row row = ledger.oldest[MOVES]; row != null; row = ledger.newer[row.index]) {
                if (isGood(row)) {
                    int parent = book.slotOf(row.v);
                    if (parent < 0 || !isUnder(parents, parent, row.slot)) {
                        parents[row.slot] = parent + 1;
                    }
                }
            }
        }

        private static boolean isUnder(int[] parents, int slot, int top) {
            int at = slot;
            for (int i = 0; i < SLOTS && at >= 0; i++) {
                if (at == top) {
                    return true;
                }
                at = parents[at] - 1;
            }
            return false;
        }

        /** Fills in what is seen of that which a row of the subject's sort changes. */
        void glance(Row subject, int[] sight) {
            Arrays.fill(sight, 0);
            switch (subject.sort) {
                case MAKE:
                case DROP:
                    sight[0] = isThere(subject.slot) ? 1 : 0;
                    break;
                case SET:
                    sight[0] = latestOf(subject.chain);
                    break;
                case PUT:
                    sight[0] = findSeveral(subject.chain);
                    for (int i = 0; i < sight[0]; i++) {
                        sight[i + 1] = several[i].v;
                    }
                    break;
                case ADD:
                    sight[0] = sumOf(subject.chain);
                    break;
                case ISSUE:
                case SPEND:
                case LEND:
                    findShares(subject.chain);
                    System.arraycopy(shares, 0, sight, 0, NODES);
                    break;
                case ENTER:
                case LEAVE:
                    sight[0] = enterOf(subject.chain, subject.v) == null ? 0 : 1;
                    break;
                case MOVE:
                    findParents(sight);
                    break;
                default:
                    glanceFurther(subject, sight);
                    break;
            }
        }

        private void glanceFurther(Row subject, int[] sight) {
            switch (subject.sort) {
                case INSERT:
                    sight[0] = stands(subject) ? 1 : 0;
                    break;
                case ERASE:
                    Row insert = book.rowNamed(subject.w);
                    sight[0] = insert != null && stands(insert) ? 1 : 0;
                    break;
                case BIND:
                case UNBIND:
                    Row bind = bindOf(subject.chain, subject.v);
                    sight[0] = bind == null ? 0 : 1;
                    sight[1] = bind == null ? 0 : bind.w;
                    break;
                default:
                    break;
            }
        }
    }

    /** The characters of one part as a view has them. */
    private static final class Text {
        final Row[] shown = new Row[ROWS];
        int length = 0;
        private final Book book;
        private final int[] next = new int[ROWS + 1];
        private final int[] gone = new int[ROWS + 1];
        private char[] goal = new char[0];
        private int typed = 0;
        private byte[] table = new byte[0];

        Text(Book book) {
            this.book = book;
        }

        /* An insert goes right behind its w, ahead of all that came there earlier;
           those that are undone keep their places, as others stand behind them. */
        void read(View view, int chain) {
            next[0] = 0;
            for (Row row = view.ledger.oldest[chain]; row != null; row = view.ledger.newer[row.index]) {
                if (!view.isApplied(row)) {
                    continue;
                }
                Row other = book.rowNamed(row.w);
                int link = other == null ? 0 : other.index + 1;
                if (row.sort == INSERT) {
                    next[row.index + 1] = next[link];
                    next[link] = row.index + 1;
                    gone[row.index + 1] = view.isGood(row) ? 0 : 1;
                } else if (view.isGood(row)) {
                    gone[link] = 1;
                }
            }
            gather();
        }

        private void gather() {
            length = 0;
            int link = next[0];
            for (int i = 0; i < ROWS && link > 0; i++) {
                if (gone[link] == 0) {
                    shown[length] = book.rows[link - 1];
                    length++;
                }
                link = next[link];
            }
        }

        int nameAhead(int place) {
            return place > 0 && place <= length ? shown[place - 1].name : 0;
        }

        int standingUpTo(Row insert) {
            int standing = 0;
            int link = next[0];
            for (int i = 0; i < ROWS && link > 0; i++) {
                standing += gone[link] == 0 ? 1 : 0;
                if (link == insert.index + 1) {
                    break;
                }
                link = next[link];
            }
            return standing;
        }

        /** Works out what the text and a typed one have in common from all places on. */
        void compare(char[] tape, int taken) {
            goal = tape;
            typed = taken;
            int cells = (length + 1) * (typed + 1);
            if (table.length < cells) {
                table = new byte[Math.max(cells, 2 * table.length)];
            }
            for (int i = length; i >= 0; i--) {
                for (int j = typed; j >= 0; j--) {
                    table[i * (typed + 1) + j] = (byte) commonFrom(i, j);
                }
            }
        }

        private int commonFrom(int i, int j) {
            if (i >= length || j >= typed) {
                return 0;
            }
            if (isSame(i, j)) {
                return 1 + common(i + 1, j + 1);
            }
            return Math.max(common(i + 1, j), common(i, j + 1));
        }

        boolean isSame(int i, int j) {
            return i < length && j < typed && shown[i].v == goal[j];
        }

        /** How many characters from places i and j on are common to both. */
        int common(int i, int j) {
            return i <= length && j <= typed ? table[i * (typed + 1) + j] : 0;
        }
    }

    /** Entries of a few numbers each, of which the first ones are kept. */
    private static final class Log {
        int entries = 0;
        private final int width;
        private final int most;
        private final int[] cells;

        Log(int width, int most) {
            this.width = width;
            this.most = most;
            this.cells = new int[width * most];
        }

        void add(int first, int second, int third, int fourth) {
            if (entries >= most) {
                return;
            }
            int at = entries * width;
            cells[at] = first;
            cells[at + 1] = second;
            cells[at + 2] = third;
            if (width > 3) {
                cells[at + 3] = fourth;
            }
            entries++;
        }

        int read(int i, int what) {
            boolean found = i >= 0 && i < entries && what >= 0 && what < width;
            return found ? cells[i * width + what] : NONE;
        }
    }

    /** One of the four: what it has applied, and what it knows of the others. */
    private static final class Node {
        final int self;
        final Ledger ledger;
        final View now;
        final Log news = new Log(3, MOST_NEWS);
        final Log turns = new Log(4, MOST_TURNS);
        final int[] seen = new int[PAIRS];
        final int[] sent = new int[PAIRS];
        final int[] cursors = new int[4 * NODES];
        int watch = 0;
        int lastTime = 0;
        int lastCount = 0;
        int waiting = 0;
        private final Book book;
        private final Row[] waits = new Row[MOST_WAITS];
        private final int[] before = new int[SLOTS];
        private final int[] after = new int[SLOTS];
        private final int[] lists = new int[4 * 4];

        Node(int self, Book book) {
            this.self = self;
            this.book = book;
            this.ledger = new Ledger(book);
            this.now = new View(book, ledger, ledger.undone);
        }

        int timeNow() {
            return Math.max(watch, lastTime);
        }

        /* A node's own line of what it has seen is what it knows itself. */
        int knownOf(int q) {
            return seen[4 * self + q];
        }

        boolean hasRoomFor(int sort, int more) {
            return book.hasRoom(self, sort, more);
        }

        Row make(Draft draft) {
            if (draft.sort == MAKE) {
                draft.slot = book.nextSlot(self);
            }
            int time = timeNow();
            int count = time == lastTime ? lastCount + 1 : 0;
            int[] vector = Arrays.copyOfRange(seen, 4 * self, 4 * self + NODES);
            Row row = new Row(draft, self, knownOf(self) + 1, time, count, vector);
            book.add(row);
            apply(row);
            return row;
        }

        private void apply(Row row) {
            Row target = row.turnsAnother() ? book.rowNamed(row.w) : row;
            Row subject = target == null ? row : target;
            boolean turning = turnsLists(subject.sort);
            int listedBefore = turning ? listsWith(subject.slot) : 0;
            now.glance(subject, before);
            take(row);
            now.glance(subject, after);
            tell(row, subject);
            if (turning) {
                turn(row, subject.slot, listedBefore, listsWith(subject.slot));
            }
        }

        private void take(Row row) {
            ledger.take(row);
            seen[4 * self + row.node] = row.number;
            raiseLast(row.time, row.count);
        }

        private void raiseLast(int time, int count) {
            if (time > lastTime || time == lastTime && count > lastCount) {
                lastTime = time;
                lastCount = count;
            }
        }

        private void tell(Row row, Row subject) {
            boolean changed = false;
            for (int i = 0; i < SLOTS; i++) {
                if (before[i] != after[i]) {
                    changed = true;
                    if (subject.sort == MOVE) {
                        news.add(row.name, book.nameOf(i), PARENT_NEWS, 0);
                    }
                }
            }
            if (changed && subject.sort != MOVE) {
                boolean ofObject = subject.sort == MAKE || subject.sort == DROP;
                news.add(row.name, book.nameOf(subject.slot), ofObject ? THERE_NEWS : subject.part, 0);
            }
        }

        private void turn(Row row, int slot, int listedBefore, int listedAfter) {
            for (int q = 0; q < 4; q++) {
                int ahead = listedBefore >> q & 1;
                int behind = listedAfter >> q & 1;
                if (ahead != behind) {
                    turns.add(row.name, q, book.nameOf(slot), behind);
                }
            }
        }

        /* Only these sorts change whether an object is in a list, and of one alone. */
        private static boolean turnsLists(int sort) {
            return sort == MAKE || sort == SET || sort == DROP;
        }

        /** In which of the four lists an object is: one bit for each. */
        int listsWith(int slot) {
            if (!now.isThere(slot)) {
                return 0;
            }
            int with = 0;
            for (int q = 0; q < 4; q++) {
                if (lists[4 * q] == book.kindOf(slot) + 1) {
                    int latest = now.latestOf(slot * CHAINS_EACH + lists[4 * q + 1]);
                    boolean within = latest >= lists[4 * q + 2] && latest <= lists[4 * q + 3];
                    with |= within ? 1 << q : 0;
                }
            }
            return with;
        }

        void putList(int q, int kind, int part, int least, int most) {
            lists[4 * q] = kind + 1;
            lists[4 * q + 1] = part;
            lists[4 * q + 2] = least;
            lists[4 * q + 3] = most;
        }

        void setCursor(int object, int part, int insert) {
            cursors[4 * self]++;
            cursors[4 * self + 1] = object;
            cursors[4 * self + 2] = part;
            cursors[4 * self + 3] = insert;
        }

        boolean isStable(Row row) {
            return row.number <= stableOf(row.node);
        }

        private int stableOf(int q) {
            int least = knownOf(q);
            for (int m = 0; m < NODES; m++) {
                least = Math.min(least, seen[4 * m + q]);
            }
            return least;
        }

        int stableRows() {
            return stableOf(0) + stableOf(1) + stableOf(2) + stableOf(3);
        }

        /** The name of the row that an undo is for, or NONE. */
        int undoable() {
            for (int number = knownOf(self); number > 0; number--) {
                Row row = book.rowNamed(1000 * self + number);
                if (row != null && isUndoSort(row.sort) && now.isGood(row)) {
                    return isStable(row) ? NONE : row.name;
                }
            }
            return NONE;
        }

        private static boolean isUndoSort(int sort) {
            return sort >= SET && sort <= ADD || sort >= ENTER && sort <= DROP
                || sort == BIND || sort == UNBIND;
        }

        /** The name of the row that a redo is for, or NONE. */
        int redoable() {
            for (int number = knownOf(self); number > 0; number--) {
                Row row = book.rowNamed(1000 * self + number);
                if (row != null && row.sort == UNDO) {
                    Row target = book.rowNamed(row.w);
                    if (target != null && !now.isGood(target)) {
                        return target.name;
                    }
                }
            }
            return NONE;
        }

        /** Loads a frame with the first rows that its other node is to get. */
        void load(Frame frame) {
            for (int i = 0; i < MOST_LOADED; i++) {
                Row row = nextFor(frame.to);
                if (row == null) {
                    return;
                }
                frame.rows[i] = row;
                frame.loaded = i + 1;
                sent[4 * frame.to + row.node] = row.number;
            }
        }

        /* The rows of one node are in ORDER by number, so only the next ones vie. */
        private Row nextFor(int to) {
            Row first = null;
            for (int q = 0; q < NODES; q++) {
                int gone = Math.max(sent[4 * to + q], seen[4 * to + q]);
                if (gone < knownOf(q)) {
                    Row row = book.rowNamed(1000 * q + gone + 1);
                    if (row != null && (first == null || row.isBefore(first))) {
                        first = row;
                    }
                }
            }
            return first;
        }

        /** How many rows were applied by a frame that is as written. */
        int receive(Frame frame) {
            for (int q = 0; q < NODES; q++) {
                int at = 4 * frame.from + q;
                seen[at] = Math.max(seen[at], frame.vector[q]);
                learnCursor(frame, 4 * q);
            }
            int taken = 0;
            for (int i = 0; i < frame.loaded; i++) {
                Row row = frame.rows[i];
                if (ledger.has(row)) {
                    continue;
                }
                if (!isReady(row)) {
                    await(row);
                    continue;
                }
                for (int j = 0; j <= MOST_WAITS && row != null; j++) {
                    apply(row);
                    taken++;
                    forgetWaits();
                    row = firstReady();
                }
            }
            return taken;
        }

        private void learnCursor(Frame frame, int at) {
            if (frame.cursors[at] > cursors[at]) {
                System.arraycopy(frame.cursors, at, cursors, at, 4);
            }
        }

        private boolean isReady(Row row) {
            if (row.number != knownOf(row.node) + 1) {
                return false;
            }
            for (int q = 0; q < NODES; q++) {
                if (knownOf(q) < row.vector[q]) {
                    return false;
                }
            }
            return true;
        }

        private void await(Row row) {
            for (int i = 0; i < waiting; i++) {
                if (waits[i] == row) {
                    return;
                }
            }
            if (waiting < MOST_WAITS) {
                waits[waiting] = row;
                waiting++;
            }
        }

        private Row firstReady() {
            Row first = null;
            for (int i = 0; i < waiting; i++) {
                if (isReady(waits[i]) && (first == null || waits[i].isBefore(first))) {
                    first = waits[i];
                }
            }
            return first;
        }

        private void forgetWaits() {
            int kept = 0;
            for (int i = 0; i < waiting; i++) {
                if (!ledger.has(waits[i])) {
                    waits[kept] = waits[i];
                    kept++;
                }
            }
            waiting = kept;
        }

        boolean hasAllOf(Node other) {
            for (int q = 0; q < NODES; q++) {
                if (knownOf(q) < other.knownOf(q)) {
                    return false;
                }
            }
            return true;
        }

        /* The other's own line of what it has seen is what it knows, so one loop
           raises both; the line of this node is set, as it has all of it now. */
        void joinTo(Node other) {
            ledger.copyFrom(other.ledger);
            for (int at = 0; at < PAIRS; at++) {
                if (at / 4 != self) {
                    seen[at] = Math.max(seen[at], other.seen[at]);
                }
            }
            System.arraycopy(other.seen, 4 * other.self, seen, 4 * self, NODES);
            raiseLast(other.lastTime, other.lastCount);
            forgetWaits();
        }
    }

    /** What goes from one node to another. */
    private static final class Frame {
        private static final int MOST_BYTES = 560;

        final int[] vector = new int[NODES];
        final int[] cursors = new int[4 * NODES];
        final Row[] rows = new Row[MOST_LOADED];
        int from;
        int to;
        boolean ask;
        int loaded;
        int length;
        int bent;
        private byte[] written = new byte[0];
        private byte[] twists = new byte[0];

        void begin(Node sender, int receiver, boolean asks) {
            from = sender.self;
            to = receiver;
            ask = asks;
            loaded = 0;
            length = 0;
            bent = 0;
            System.arraycopy(sender.seen, 4 * from, vector, 0, NODES);
            System.arraycopy(sender.cursors, 0, cursors, 0, 4 * NODES);
        }

        void copyFrom(Frame other) {
            from = other.from;
            to = other.to;
            ask = other.ask;
            loaded = other.loaded;
            length = 0;
            bent = 0;
            System.arraycopy(other.vector, 0, vector, 0, NODES);
            System.arraycopy(other.cursors, 0, cursors, 0, 4 * NODES);
            for (int i = 0; i < loaded; i++) {
                rows[i] = other.rows[i];
            }
            if (other.bent > 0) {
                write();
                System.arraycopy(other.twists, 0, twists, 0, length);
                bent = other.bent;
            }
        }

        /* Most frames are never looked at as bytes, so these are made when asked for. */
        void write() {
            if (length > 0) {
                return;
            }
            if (written.length == 0) {
                written = new byte[MOST_BYTES];
                twists = new byte[MOST_BYTES];
            }
            putByte(from + 4 * to + (ask ? 16 : 0));
            putNumbers(vector, 0, NODES);
            for (int m = 0; m < NODES; m++) {
                putNumbers(cursors, 4 * m, cursors[4 * m] == 0 ? 1 : 4);
            }
            putNumber(loaded);
            for (int i = 0; i < loaded; i++) {
                putRow(rows[i]);
            }
            int check = checkOf();
            putByte(check >> 8);
            putByte(check & 255);
            Arrays.fill(twists, (byte) 0);
        }

        private void putRow(Row row) {
            putByte(32 * row.node + row.sort);
            putNumber(row.number);
            putNumber(row.object);
            putNumber(row.part);
            putNumber(row.v);
            putNumber(row.w);
            putNumber(row.time);
            putNumber(row.count);
            putNumbers(row.vector, 0, NODES);
        }

        private void putByte(int octet) {
            if (length < MOST_BYTES) {
                written[length] = (byte) octet;
                length++;
            }
        }

        private void putNumbers(int[] numbers, int start, int many) {
            for (int i = start; i < start + many; i++) {
                putNumber(numbers[i]);
            }
        }

        private void putNumber(int x) {
            int left = x << 1 ^ x >> 31;
            for (int i = 0; i < 4 && left >>> 7 != 0; i++) {
                putByte(left & 127 | 128);
                left >>>= 7;
            }
            putByte(left);
        }

        private int checkOf() {
            int check = 65535;
            for (int i = 0; i < length; i++) {
                check ^= (written[i] & 255) << 8;
                for (int bit = 0; bit < 8; bit++) {
                    check <<= 1;
                    if (check > 65535) {
                        check ^= 69665;
                    }
                }
            }
            return check;
        }

        int byteNow(int i) {
            return (written[i] ^ twists[i]) & 255;
        }

        void twist(int i, int mask) {
            int twistedBefore = twists[i] == 0 ? 0 : 1;
            twists[i] ^= (byte) mask;
            bent += (twists[i] == 0 ? 0 : 1) - twistedBefore;
        }
    }

    /** The frames that wait; one that is gone is used again for a later one. */
    private static final class Line {
        int waiting = 0;
        int lost = 0;
        int refused = 0;
        private final Frame[] frames = new Frame[MOST_FRAMES];

        boolean isFull() {
            return waiting >= MOST_FRAMES;
        }

        Frame at(int k) {
            return k >= 0 && k < waiting ? frames[k] : null;
        }

        /** The last one of all; to be asked for only if there is room. */
        Frame open() {
            if (frames[waiting] == null) {
                frames[waiting] = new Frame();
            }
            waiting++;
            return frames[waiting - 1];
        }

        void remove(int k) {
            Frame gone = frames[k];
            for (int i = k; i < waiting - 1; i++) {
                frames[i] = frames[i + 1];
            }
            waiting--;
            frames[waiting] = gone;
        }
    }
}
