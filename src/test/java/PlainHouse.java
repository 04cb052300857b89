import java.util.ArrayList;
import java.util.Arrays;
import java.util.Comparator;
import java.util.HashSet;
import java.util.List;
import java.util.NoSuchElementException;
import java.util.Set;
import java.util.TreeMap;
import java.util.TreeSet;

/**
 * The document once more, as plainly as can be: a node is the list of the rows
 * that it has applied, everything is worked out of that list by the words of
 * the document, and the news are what differs between two looks at everything.
 * It is slow, and shares no line with the class that it is held against.
 */
final class PlainHouse {
    static final class Change {
        int sort;
        int object;
        int part;
        int v;
        int w;
        int node;
        int number;
        int time;
        int count;
        int[] vector;

        int name() {
            return 1000 * node + number;
        }

        boolean knew(Change other) {
            return vector[other.node] >= other.number;
        }
    }

    static final Comparator<Change> ORDER = Comparator.<Change>comparingInt(c -> c.time)
        .thenComparingInt(c -> c.count).thenComparingInt(c -> c.node);

    static final class Place {
        int watch = 0;
        List<Change> applied = new ArrayList<>();
        List<Change> waits = new ArrayList<>();
        int[][] seen = new int[4][4];
        int[][] sent = new int[4][4];
        int[][] cursors = new int[4][];
        List<int[]> news = new ArrayList<>();
        List<int[]> turns = new ArrayList<>();
        int[][] lists = new int[4][];

        int known(int q) {
            int known = 0;
            for (Change c : applied) {
                known += c.node == q ? 1 : 0;
            }
            return known;
        }

        int[] known() {
            return new int[] {known(0), known(1), known(2), known(3)};
        }

        int[] last() {
            int[] last = {0, 0};
            for (Change c : applied) {
                if (c.time > last[0] || c.time == last[0] && c.count > last[1]) {
                    last = new int[] {c.time, c.count};
                }
            }
            return last;
        }

        int now() {
            return Math.max(watch, last()[0]);
        }
    }

    static final class Letter {
        int from;
        int to;
        boolean ask;
        int[] vector;
        int[][] cursors;
        List<Change> rows = new ArrayList<>();
        int[] written;
        int[] bytes;
    }

    /** One value of a part: the number, what it is bound to, and its row. */
    static final class Value {
        final int number;
        final int bound;
        final int by;

        Value(int number, int bound, int by) {
            this.number = number;
            this.bound = bound;
            this.by = by;
        }
    }

    private String tape = "";
    private final List<String> kinds = new ArrayList<>();
    private int fault = -1;
    private final Place[] places = {new Place(), new Place(), new Place(), new Place()};
    private final List<Letter> line = new ArrayList<>();
    private final int[] made = new int[4];
    private final int[] makes = new int[4];
    private int lost = 0;
    private int refused = 0;
    private int joined = 0;

    // ---------------------------------------------------------------- tape

    boolean type(long word, int n) {
        if (n < 1 || n > 8) {
            return false;
        }
        StringBuilder typed = new StringBuilder();
        for (int i = 0; i < n; i++) {
            int letter = (int) (word & 0xFF);
            word >>= 8;
            if (letter < 32 || letter > 126) {
                return false;
            }
            typed.insert(0, (char) letter);
        }
        if (tape.length() + n > 40) {
            return false;
        }
        tape += typed;
        return true;
    }

    int kind() {
        String letters = tape;
        tape = "";
        fault = -1;
        if (letters.isEmpty()) {
            fault = 0;
        }
        for (int i = 0; i < letters.length() && fault < 0; i++) {
            if (i == 6 || !"LSCBATM".contains(letters.substring(i, i + 1))) {
                fault = i;
            }
        }
        if (fault >= 0) {
            throw new IllegalArgumentException();
        }
        if (kinds.size() == 8) {
            throw new IllegalStateException();
        }
        kinds.add(letters);
        return kinds.size() - 1;
    }

    int fault() {
        return fault;
    }

    int tick(int node, int by) {
        if (!isNode(node) || by < 1 || by > 1000) {
            return -1;
        }
        return places[node].watch += by;
    }

    // --------------------------------------------------- what a node sees

    private static boolean isNode(int node) {
        return node == 0 || node == 1 || node == 2 || node == 3;
    }

    private static Change find(List<Change> rows, int name) {
        for (Change c : rows) {
            if (c.name() == name) {
                return c;
            }
        }
        return null;
    }

    private static boolean isGood(List<Change> rows, Change c) {
        Change latest = null;
        for (Change u : rows) {
            boolean about = (u.sort == 13 || u.sort == 14) && u.w == c.name();
            if (about && (latest == null || u.number > latest.number)) {
                latest = u;
            }
        }
        return latest == null || latest.sort == 14;
    }

    /** In ORDER, the good ones of some sorts of a part. */
    private static List<Change> goodOf(List<Change> rows, int object, int part, int... sorts) {
        List<Change> found = new ArrayList<>();
        for (Change c : rows) {
            boolean asked = Arrays.stream(sorts).anyMatch(s -> s == c.sort);
            if (asked && c.object == object && c.part == part && isGood(rows, c)) {
                found.add(c);
            }
        }
        found.sort(ORDER);
        return found;
    }

    private static boolean isMade(List<Change> rows, int object) {
        Change c = find(rows, object);
        return c != null && c.sort == 0;
    }

    private static boolean isThere(List<Change> rows, int object) {
        return isMade(rows, object) && goodOf(rows, object, 0, 12).isEmpty();
    }

    private static List<Integer> objectsOf(List<Change> rows) {
        Set<Integer> names = new TreeSet<>();
        for (Change c : rows) {
            if (c.sort == 0) {
                names.add(c.name());
            }
        }
        return new ArrayList<>(names);
    }

    private char ruleOf(int kind, int part) {
        if (kind < 0 || kind >= kinds.size() || part < 0 || part >= kinds.get(kind).length()) {
            return 0;
        }
        return kinds.get(kind).charAt(part);
    }

    private char ruleOf(List<Change> rows, int object, int part) {
        return isMade(rows, object) ? ruleOf(find(rows, object).v, part) : 0;
    }

    private List<Value> valuesOf(List<Change> rows, int object, int part) {
        switch (ruleOf(rows, object, part)) {
            case 'L': return latest(rows, object, part);
            case 'S': return several(rows, object, part);
            case 'C': return sum(rows, object, part);
            case 'B': return shares(rows, object, part);
            case 'A': return set(rows, object, part);
            case 'T': return text(rows, object, part);
            case 'M': return map(rows, object, part);
            default: return null;
        }
    }

    private static List<Value> latest(List<Change> rows, int object, int part) {
        List<Change> sets = goodOf(rows, object, part, 1);
        if (sets.isEmpty()) {
            return List.of(new Value(0, 0, 0));
        }
        Change c = sets.get(sets.size() - 1);
        return List.of(new Value(c.v, 0, c.name()));
    }

    private static List<Value> several(List<Change> rows, int object, int part) {
        List<Change> puts = goodOf(rows, object, part, 2);
        List<Value> found = new ArrayList<>();
        for (Change c : puts) {
            boolean known = false;
            for (Change other : puts) {
                known |= other != c && other.knew(c);
            }
            if (!known) {
                found.add(new Value(c.v, 0, c.name()));
            }
        }
        return found;
    }

    private static List<Value> sum(List<Change> rows, int object, int part) {
        int sum = 0;
        for (Change c : goodOf(rows, object, part, 3)) {
            sum += c.v;
        }
        return List.of(new Value(sum, 0, -1));
    }

    private static List<Value> shares(List<Change> rows, int object, int part) {
        List<Value> found = new ArrayList<>();
        int sum = 0;
        for (int q = 0; q < 4; q++) {
            int share = 0;
            for (Change c : goodOf(rows, object, part, 4, 5, 6)) {
                if (c.sort == 4 && c.node == q || c.sort == 6 && c.w == q) {
                    share += c.v;
                }
                if (c.sort != 4 && c.node == q) {
                    share -= c.v;
                }
            }
            found.add(new Value(share, 0, -1));
            sum += share;
        }
        found.add(new Value(sum, 0, -1));
        return found;
    }

    private static List<Value> set(List<Change> rows, int object, int part) {
        TreeMap<Integer, Value> found = new TreeMap<>();
        List<Change> leaves = goodOf(rows, object, part, 8);
        for (Change c : goodOf(rows, object, part, 7)) {
            boolean left = false;
            for (Change leave : leaves) {
                left |= leave.v == c.v && leave.knew(c);
            }
            if (!left) {
                found.put(c.v, new Value(c.v, 0, c.name()));
            }
        }
        return new ArrayList<>(found.values());
    }

    private static List<Value> map(List<Change> rows, int object, int part) {
        TreeMap<Integer, Value> found = new TreeMap<>();
        for (Change c : goodOf(rows, object, part, 15, 16)) {
            found.remove(c.v);
            if (c.sort == 15) {
                found.put(c.v, new Value(c.v, c.w, c.name()));
            }
        }
        return new ArrayList<>(found.values());
    }

    private static List<Value> text(List<Change> rows, int object, int part) {
        List<Value> found = new ArrayList<>();
        for (Change c : places(rows, object, part)) {
            if (stands(rows, c)) {
                found.add(new Value(c.v, 0, c.name()));
            }
        }
        return found;
    }

    private static boolean stands(List<Change> rows, Change insert) {
        if (!isGood(rows, insert)) {
            return false;
        }
        for (Change c : goodOf(rows, insert.object, insert.part, 10)) {
            if (c.w == insert.name()) {
                return false;
            }
        }
        return true;
    }

    /** All inserts of a text, those too that do not stand in it. */
    private static List<Change> places(List<Change> rows, int object, int part) {
        List<Change> inserts = new ArrayList<>();
        for (Change c : rows) {
            if (c.sort == 9 && c.object == object && c.part == part) {
                inserts.add(c);
            }
        }
        inserts.sort(ORDER.reversed());
        List<Change> found = new ArrayList<>();
        follow(inserts, 0, found);
        return found;
    }

    private static void follow(List<Change> inserts, int behind, List<Change> found) {
        for (Change c : inserts) {
            if (c.w == behind) {
                found.add(c);
                follow(inserts, c.name(), found);
            }
        }
    }

    private static TreeMap<Integer, Integer> parents(List<Change> rows) {
        TreeMap<Integer, Integer> parents = new TreeMap<>();
        List<Change> moves = new ArrayList<>();
        for (Change c : rows) {
            if (c.sort == 11 && isGood(rows, c)) {
                moves.add(c);
            }
        }
        moves.sort(ORDER);
        for (Change c : moves) {
            boolean ring = false;
            for (Integer up = c.v; up != null; up = parents.get(up)) {
                ring |= up == c.object;
            }
            if (!ring) {
                if (c.v == -1) {
                    parents.remove(c.object);
                } else {
                    parents.put(c.object, c.v);
                }
            }
        }
        return parents;
    }

    private static int holder(List<Change> rows, int object, int now) {
        List<Change> claims = goodOf(rows, object, 0, 17, 18);
        int holder = -1;
        int till = Integer.MIN_VALUE;
        for (Change c : claims) {
            int holds = c.time < till ? holder : -1;
            if (c.sort == 17 && holds == -1) {
                holder = c.node;
                till = c.time + c.v;
            } else if (c.sort == 17 && holds == c.node) {
                till = Math.max(till, c.time + c.v);
            } else if (c.sort == 18 && holds == c.node) {
                till = c.time;
            }
        }
        return now < till ? holder : -1;
    }

    private static boolean isStable(Place place, int node, Change c) {
        for (int m = 0; m < 4; m++) {
            if (m != node && place.seen[m][c.node] < c.number) {
                return false;
            }
        }
        return true;
    }

    // ---------------------------------------------------------------- acts

    private int refusal(int node, int sort, int object, int part, int v) {
        if (!isNode(node) || sort < 0 || sort > 18) {
            return -1;
        }
        List<Change> rows = places[node].applied;
        if (sort == 0 && (v < 0 || v >= kinds.size())) {
            return -1;
        }
        if (sort == 0 || sort == 13 || sort == 14) {
            return 0;
        }
        if (!isMade(rows, object)) {
            return -1;
        }
        String due = "0LSCBBBAATT0000MM00";
        if (due.charAt(sort) != '0') {
            char rule = ruleOf(rows, object, part);
            if (rule == 0) {
                return -1;
            }
            if (rule != due.charAt(sort)) {
                return -2;
            }
        }
        if (!isThere(rows, object) || sort == 11 && v != -1 && !isThere(rows, v)) {
            return -3;
        }
        return 0;
    }

    /** The v and w of the row, or null if the act is refused with 5. */
    private int[] numbersFor(int node, int sort, int object, int part, int v, int w) {
        Place place = places[node];
        List<Change> rows = place.applied;
        List<Value> values = valuesOf(rows, object, part);
        boolean inRange = v >= 1 && v <= 1000;
        boolean key = v >= 0 && v <= 63;
        int holder = sort >= 17 ? holder(rows, object, place.now()) : -1;
        switch (sort) {
            case 4: return inRange ? new int[] {v, 0} : null;
            case 5: return inRange && v <= values.get(node).number ? new int[] {v, 0} : null;
            case 6:
                boolean other = isNode(w) && w != node;
                return inRange && v <= values.get(node).number && other ? new int[] {v, w} : null;
            case 7: return key ? new int[] {v, 0} : null;
            case 8:
            case 16:
                for (Value value : values) {
                    if (value.number == v) {
                        return new int[] {v, 0};
                    }
                }
                return null;
            case 9:
                if (v < 32 || v > 126 || w < 0 || w > values.size()) {
                    return null;
                }
                return new int[] {v, w == 0 ? 0 : values.get(w - 1).by};
            case 10: return w < 0 || w >= values.size() ? null : new int[] {0, values.get(w).by};
            case 12: return new int[] {0, 0};
            case 13: return undoNumbers(place, node);
            case 14: return redoNumbers(place, node);
            case 15: return key ? new int[] {v, w} : null;
            case 17: return v >= 1 && v <= 100 && (holder == -1 || holder == node) ? new int[] {v, 0} : null;
            case 18: return holder == node ? new int[] {0, 0} : null;
            default: return new int[] {v, 0};
        }
    }

    private static int[] undoNumbers(Place place, int node) {
        Change best = null;
        Set<Integer> sorts = new HashSet<>(List.of(1, 2, 3, 7, 8, 9, 10, 11, 12, 15, 16));
        for (Change c : place.applied) {
            if (c.node == node && sorts.contains(c.sort) && isGood(place.applied, c)
                && (best == null || c.number > best.number)) {
                best = c;
            }
        }
        return best == null || isStable(place, node, best) ? null : new int[] {0, best.name()};
    }

    private static int[] redoNumbers(Place place, int node) {
        int best = 0;
        int latest = 0;
        for (Change c : place.applied) {
            if (c.node == node && !isGood(place.applied, c)) {
                for (Change u : place.applied) {
                    if (u.sort == 13 && u.w == c.name() && u.number > latest) {
                        latest = u.number;
                        best = c.name();
                    }
                }
            }
        }
        return latest == 0 ? null : new int[] {0, best};
    }

    int act(int node, int sort, int object, int part, int v, int w) {
        int refusal = refusal(node, sort, object, part, v);
        if (refusal != 0) {
            return refusal;
        }
        int[] numbers = numbersFor(node, sort, object, part, v, w);
        if (numbers == null) {
            return -5;
        }
        if (made[node] >= 250 || sort == 0 && makes[node] >= 12) {
            return -4;
        }
        boolean alone = sort == 0 || sort == 13 || sort == 14;
        boolean parted = sort >= 1 && sort <= 10 || sort == 15 || sort == 16;
        return make(node, sort, alone ? 0 : object, parted ? part : 0, numbers[0], numbers[1]);
    }

    private int make(int node, int sort, int object, int part, int v, int w) {
        Place place = places[node];
        Change c = new Change();
        c.sort = sort;
        c.object = object;
        c.part = part;
        c.v = v;
        c.w = w;
        c.node = node;
        c.number = ++made[node];
        c.vector = place.known();
        int[] last = place.last();
        c.time = Math.max(place.watch, last[0]);
        c.count = c.time == last[0] ? last[1] + 1 : 0;
        makes[node] += sort == 0 ? 1 : 0;
        apply(place, c);
        return c.name();
    }

    private void apply(Place place, Change c) {
        Set<Integer> all = new TreeSet<>(objectsOf(place.applied));
        if (c.sort == 0) {
            all.add(c.name());
        }
        List<Change> ahead = new ArrayList<>(place.applied);
        place.applied.add(c);
        place.waits.remove(c);
        TreeMap<Integer, Integer> parentsAhead = parents(ahead);
        TreeMap<Integer, Integer> parentsNow = parents(place.applied);
        for (int object : all) {
            for (int part = 0; part < 6; part++) {
                if (!seen(ahead, object, part, place.applied).equals(seen(place.applied, object, part, place.applied))) {
                    note(place.news, 250, c.name(), object, part);
                }
            }
            if (parentsAhead.getOrDefault(object, -1).intValue() != parentsNow.getOrDefault(object, -1).intValue()) {
                note(place.news, 250, c.name(), object, 6);
            }
            if (isThere(ahead, object) != isThere(place.applied, object)) {
                note(place.news, 250, c.name(), object, 7);
            }
        }
        for (int q = 0; q < 4; q++) {
            for (int object : all) {
                boolean was = isListed(ahead, place.lists[q], object);
                boolean is = isListed(place.applied, place.lists[q], object);
                if (was != is) {
                    note(place.turns, 200, c.name(), q, object, is ? 1 : 0);
                }
            }
        }
    }

    /** What is seen of a part, of one that is not made yet with its later rule. */
    private String seen(List<Change> rows, int object, int part, List<Change> later) {
        char rule = ruleOf(later, object, part);
        List<Value> values = valuesOf(rows, object, part);
        StringBuilder text = new StringBuilder();
        if (values == null) {
            return rule == 'L' || rule == 'C' ? "0/0 " : rule == 'B' ? "0/0 0/0 0/0 0/0 0/0 " : "";
        }
        for (Value value : values) {
            text.append(value.number).append('/').append(value.bound).append(' ');
        }
        return text.toString();
    }

    private static void note(List<int[]> log, int most, int... entry) {
        if (log.size() < most) {
            log.add(entry);
        }
    }

    private boolean isListed(List<Change> rows, int[] list, int object) {
        if (list == null || !isThere(rows, object) || find(rows, object).v != list[0]) {
            return false;
        }
        int value = valuesOf(rows, object, list[1]).get(0).number;
        return list[2] <= value && value <= list[3];
    }

    int commit(int node, int object, int part) {
        String goal = tape;
        tape = "";
        int refusal = refusal(node, 9, object, part, 0);
        if (refusal != 0) {
            return refusal;
        }
        List<Value> old = valuesOf(places[node].applied, object, part);
        List<int[]> steps = stepsFor(old, goal);
        if (made[node] + steps.size() > 250) {
            return -4;
        }
        int behind = 0;
        int step = 0;
        for (int i = 0, j = 0; i < old.size() || j < goal.length();) {
            int[] next = step < steps.size() ? steps.get(step) : new int[] {-1, -1, -1};
            if (next[1] == i && next[2] == j) {
                if (next[0] == 10) {
                    make(node, 10, object, part, 0, old.get(i).by);
                    i++;
                } else {
                    behind = make(node, 9, object, part, goal.charAt(j), behind);
                    j++;
                }
                step++;
            } else {
                behind = old.get(i).by;
                i++;
                j++;
            }
        }
        return steps.size();
    }

    private static List<int[]> stepsFor(List<Value> old, String goal) {
        int[][] common = new int[old.size() + 2][goal.length() + 2];
        for (int i = old.size() - 1; i >= 0; i--) {
            for (int j = goal.length() - 1; j >= 0; j--) {
                int best = Math.max(common[i + 1][j], common[i][j + 1]);
                if (old.get(i).number == goal.charAt(j)) {
                    best = Math.max(best, 1 + common[i + 1][j + 1]);
                }
                common[i][j] = best;
            }
        }
        List<int[]> steps = new ArrayList<>();
        int i = 0;
        int j = 0;
        while (i < old.size() || j < goal.length()) {
            boolean both = i < old.size() && j < goal.length();
            if (both && old.get(i).number == goal.charAt(j) && common[i][j] == 1 + common[i + 1][j + 1]) {
                i++;
                j++;
            } else if (i < old.size() && common[i][j] == common[i + 1][j]) {
                steps.add(new int[] {10, i, j});
                i++;
            } else {
                steps.add(new int[] {9, i, j});
                j++;
            }
        }
        return steps;
    }

    boolean cursor(int node, int object, int part, int place) {
        if (refusal(node, 9, object, part, 0) != 0) {
            return false;
        }
        List<Value> values = valuesOf(places[node].applied, object, part);
        if (place < 0 || place > values.size()) {
            return false;
        }
        int[] old = places[node].cursors[node];
        int times = old == null ? 1 : old[0] + 1;
        int insert = place == 0 ? 0 : values.get(place - 1).by;
        places[node].cursors[node] = new int[] {times, object, part, insert};
        return true;
    }

    int where(int node, int m, int what) {
        if (!isNode(node) || !isNode(m) || what < 0 || what > 3) {
            return -1;
        }
        int[] cursor = places[node].cursors[m];
        if (cursor == null) {
            return what == 0 ? 0 : -1;
        }
        if (what < 3) {
            return cursor[what];
        }
        List<Change> rows = places[node].applied;
        if (!isMade(rows, cursor[1]) || cursor[3] != 0 && find(rows, cursor[3]) == null) {
            return -1;
        }
        int standing = 0;
        if (cursor[3] != 0) {
            for (Change c : places(rows, cursor[1], cursor[2])) {
                standing += stands(rows, c) ? 1 : 0;
                if (c.name() == cursor[3]) {
                    break;
                }
            }
        }
        return standing;
    }

    boolean stand(int node, int q, int kind, int part, int least, int most) {
        if (!isNode(node) || !isNode(q) || ruleOf(kind, part) != 'L') {
            return false;
        }
        places[node].lists[q] = new int[] {kind, part, least, most};
        return true;
    }

    int listed(int node, int q, int i) {
        if (!isNode(node) || !isNode(q)) {
            return -1;
        }
        List<Integer> found = new ArrayList<>();
        for (int object : objectsOf(places[node].applied)) {
            if (isListed(places[node].applied, places[node].lists[q], object)) {
                found.add(object);
            }
        }
        return i == -1 ? found.size() : at(found, i);
    }

    private static int at(List<Integer> found, int i) {
        return i >= 0 && i < found.size() ? found.get(i) : -1;
    }

    private static int at(List<int[]> log, int i, int what, int width) {
        return i >= 0 && i < log.size() && what >= 0 && what < width ? log.get(i)[what] : -1;
    }

    int turned(int node, int i, int what) {
        return isNode(node) ? at(places[node].turns, i, what, 4) : -1;
    }

    // -------------------------------------------------------------- frames

    boolean send(int from, int to, boolean ask) {
        if (!isNode(from) || !isNode(to) || from == to || line.size() == 60) {
            return false;
        }
        Place place = places[from];
        Letter letter = new Letter();
        letter.from = from;
        letter.to = to;
        letter.ask = ask;
        letter.vector = place.known();
        letter.cursors = new int[4][];
        for (int m = 0; m < 4; m++) {
            letter.cursors[m] = place.cursors[m] == null ? null : place.cursors[m].clone();
        }
        if (!ask) {
            List<Change> due = new ArrayList<>(place.applied);
            due.removeIf(c -> c.number <= place.sent[to][c.node] || c.number <= place.seen[to][c.node]);
            due.sort(ORDER);
            letter.rows.addAll(due.subList(0, Math.min(8, due.size())));
            for (Change c : letter.rows) {
                place.sent[to][c.node] = c.number;
            }
        }
        letter.written = write(letter);
        letter.bytes = letter.written.clone();
        line.add(letter);
        return true;
    }

    private static int[] write(Letter letter) {
        List<Integer> bytes = new ArrayList<>();
        bytes.add(letter.from + 4 * letter.to + (letter.ask ? 16 : 0));
        writeNumbers(bytes, letter.vector);
        for (int[] cursor : letter.cursors) {
            writeNumbers(bytes, cursor == null ? new int[] {0} : cursor);
        }
        writeNumbers(bytes, letter.rows.size());
        for (Change c : letter.rows) {
            bytes.add(32 * c.node + c.sort);
            writeNumbers(bytes, c.number, c.object, c.part, c.v, c.w, c.time, c.count);
            writeNumbers(bytes, c.vector);
        }
        int check = 65535;
        for (int octet : bytes) {
            check ^= 256 * octet;
            for (int i = 0; i < 8; i++) {
                check = 2 * check;
                check = check > 65535 ? check ^ 69665 : check;
            }
        }
        bytes.add(check / 256);
        bytes.add(check % 256);
        return bytes.stream().mapToInt(Integer::intValue).toArray();
    }

    private static void writeNumbers(List<Integer> bytes, int... numbers) {
        for (int x : numbers) {
            long z = x < 0 ? -2L * x - 1 : 2L * x;
            while (z >= 128) {
                bytes.add((int) (z % 128) + 128);
                z /= 128;
            }
            bytes.add((int) z);
        }
    }

    private Letter letter(int k) {
        return k >= 0 && k < line.size() ? line.get(k) : null;
    }

    int deliver(int k) {
        Letter letter = letter(k);
        if (letter == null) {
            return -1;
        }
        line.remove(k);
        if (!Arrays.equals(letter.bytes, letter.written)) {
            refused++;
            return -2;
        }
        Place place = places[letter.to];
        for (int q = 0; q < 4; q++) {
            place.seen[letter.from][q] = Math.max(place.seen[letter.from][q], letter.vector[q]);
            int times = place.cursors[q] == null ? 0 : place.cursors[q][0];
            if (letter.cursors[q] != null && letter.cursors[q][0] > times) {
                place.cursors[q] = letter.cursors[q];
            }
        }
        int taken = 0;
        for (Change c : letter.rows) {
            taken += takeIn(place, c);
        }
        if (letter.ask) {
            place.sent[letter.from] = letter.vector.clone();
            send(letter.to, letter.from, false);
        }
        return taken;
    }

    private int takeIn(Place place, Change c) {
        if (place.applied.contains(c)) {
            return 0;
        }
        if (!isReady(place, c)) {
            if (!place.waits.contains(c) && place.waits.size() < 30) {
                place.waits.add(c);
            }
            return 0;
        }
        int taken = 0;
        Change next = c;
        while (next != null) {
            apply(place, next);
            taken++;
            next = place.waits.stream().filter(x -> isReady(place, x)).min(ORDER).orElse(null);
        }
        return taken;
    }

    private static boolean isReady(Place place, Change c) {
        int[] known = place.known();
        boolean ready = c.number == known[c.node] + 1;
        for (int q = 0; q < 4; q++) {
            ready &= known[q] >= c.vector[q];
        }
        return ready;
    }

    boolean lose(int k) {
        if (letter(k) == null) {
            return false;
        }
        line.remove(k);
        lost++;
        return true;
    }

    boolean twice(int k) {
        Letter letter = letter(k);
        if (letter == null || line.size() == 60) {
            return false;
        }
        Letter copy = new Letter();
        copy.from = letter.from;
        copy.to = letter.to;
        copy.ask = letter.ask;
        copy.vector = letter.vector;
        copy.cursors = letter.cursors;
        copy.rows = letter.rows;
        copy.written = letter.written;
        copy.bytes = letter.bytes.clone();
        line.add(copy);
        return true;
    }

    int octet(int k, int i) {
        Letter letter = letter(k);
        if (letter == null) {
            return -1;
        }
        if (i == -1) {
            return letter.bytes.length;
        }
        return i >= 0 && i < letter.bytes.length ? letter.bytes[i] : -1;
    }

    boolean bend(int k, int i, int by) {
        Letter letter = letter(k);
        if (letter == null || i < 0 || i >= letter.bytes.length || by < 1 || by > 255) {
            return false;
        }
        letter.bytes[i] ^= by;
        return true;
    }

    boolean join(int node, int other) {
        if (!isNode(node) || !isNode(other) || node == other || joined == 40) {
            return false;
        }
        Place place = places[node];
        Place model = places[other];
        if (!model.applied.containsAll(place.applied)) {
            return false;
        }
        joined++;
        for (int m = 0; m < 4; m++) {
            for (int q = 0; q < 4; q++) {
                if (m != node) {
                    int more = m == other ? model.known(q) : model.seen[m][q];
                    place.seen[m][q] = Math.max(place.seen[m][q], more);
                }
            }
        }
        place.applied = new ArrayList<>(model.applied);
        place.waits.removeAll(place.applied);
        return true;
    }

    // --------------------------------------------------------------- looks

    int object(int node, int object, int what) {
        if (!isNode(node) || !isMade(places[node].applied, object)) {
            return -1;
        }
        List<Change> rows = places[node].applied;
        switch (what) {
            case 0: return isThere(rows, object) ? 1 : 0;
            case 1: return find(rows, object).v;
            case 2: return parents(rows).getOrDefault(object, -1);
            case 3:
                int children = 0;
                TreeMap<Integer, Integer> parents = parents(rows);
                for (int child : parents.keySet()) {
                    children += isThere(rows, child) && parents.get(child) == object ? 1 : 0;
                }
                return children;
            case 4: return holder(rows, object, places[node].now());
            default: return -1;
        }
    }

    private List<Value> valuesAt(int node, int object, int part) {
        return isNode(node) ? valuesOf(places[node].applied, object, part) : null;
    }

    int size(int node, int object, int part) {
        List<Value> values = valuesAt(node, object, part);
        return values == null ? -1 : values.size();
    }

    int value(int node, int object, int part, int i) {
        List<Value> values = valuesAt(node, object, part);
        if (values == null || i < 0 || i >= values.size()) {
            throw new NoSuchElementException();
        }
        return values.get(i).number;
    }

    int bound(int node, int object, int part, int key) {
        if (isNode(node) && ruleOf(places[node].applied, object, part) == 'M') {
            for (Value value : valuesAt(node, object, part)) {
                if (value.number == key) {
                    return value.bound;
                }
            }
        }
        throw new NoSuchElementException();
    }

    int by(int node, int object, int part, int i) {
        List<Value> values = valuesAt(node, object, part);
        return values == null || i < 0 || i >= values.size() ? -1 : values.get(i).by;
    }

    int list(int node, int k) {
        if (!isNode(node)) {
            return -1;
        }
        List<Integer> found = objectsOf(places[node].applied);
        found.removeIf(object -> !isThere(places[node].applied, object));
        return at(found, k);
    }

    int count(int node, int kind, int part, int least, int most) {
        if (!isNode(node) || ruleOf(kind, part) != 'L') {
            return -1;
        }
        int found = 0;
        for (int object : objectsOf(places[node].applied)) {
            found += isListed(places[node].applied, new int[] {kind, part, least, most}, object) ? 1 : 0;
        }
        return found;
    }

    int ranked(int node, int kind, int part, int k) {
        if (!isNode(node) || ruleOf(kind, part) != 'L') {
            return -1;
        }
        List<Change> rows = places[node].applied;
        List<Integer> found = objectsOf(rows);
        found.removeIf(object -> !isThere(rows, object) || find(rows, object).v != kind);
        found.sort(Comparator.comparing(object -> valuesOf(rows, object, part).get(0).number));
        return at(found, k);
    }

    private List<Change> firstOf(int node, int k, int object, int part, String rules) {
        if (!isNode(node) || k < 0 || k > places[node].applied.size()) {
            return null;
        }
        char rule = ruleOf(places[node].applied, object, part);
        return rule == 0 || rules.indexOf(rule) < 0 ? null : places[node].applied.subList(0, k);
    }

    int past(int node, int k, int object, int part) {
        List<Change> rows = firstOf(node, k, object, part, "LC");
        if (rows == null) {
            throw new NoSuchElementException();
        }
        return isMade(rows, object) ? valuesOf(rows, object, part).get(0).number : 0;
    }

    int was(int node, int k, int object, int part, int i) {
        List<Change> rows = firstOf(node, k, object, part, "T");
        if (rows == null) {
            return -1;
        }
        List<Value> values = isMade(rows, object) ? valuesOf(rows, object, part) : List.of();
        if (i == -1) {
            return values.size();
        }
        return i >= 0 && i < values.size() ? values.get(i).number : -1;
    }

    int row(int node, int name, int what) {
        Change c = isNode(node) ? find(places[node].applied, name) : null;
        if (c == null || what < 0 || what > 13) {
            return -1;
        }
        int[] told = {c.sort, c.object, c.part, c.v, c.w, c.time, c.count,
            isGood(places[node].applied, c) ? 1 : 0, isStable(places[node], node, c) ? 1 : 0,
            places[node].applied.indexOf(c), c.vector[0], c.vector[1], c.vector[2], c.vector[3]};
        return told[what];
    }

    int frame(int k, int what) {
        Letter letter = letter(k);
        if (letter == null || what < 0) {
            return -1;
        }
        List<Integer> told = new ArrayList<>(List.of(letter.from, letter.to, letter.ask ? 1 : 0, letter.rows.size()));
        for (int known : letter.vector) {
            told.add(known);
        }
        for (Change c : letter.rows) {
            told.add(c.name());
        }
        return at(told, what);
    }

    int news(int node, int i, int what) {
        return isNode(node) ? at(places[node].news, i, what, 3) : -1;
    }

    int calm(int node) {
        if (!isNode(node)) {
            return -1;
        }
        int told = places[node].news.size();
        places[node].news.clear();
        places[node].turns.clear();
        return told;
    }

    int node(int node, int what) {
        if (!isNode(node)) {
            return -1;
        }
        Place place = places[node];
        if (what >= 20 && what <= 35) {
            int m = (what - 20) / 4;
            return m == node ? place.known(what % 4) : place.seen[m][what % 4];
        }
        if (what >= 40 && what <= 55) {
            return place.sent[(what - 40) / 4][what % 4];
        }
        switch (what) {
            case 0: return place.watch;
            case 1: return place.applied.size();
            case 2: return place.waits.size();
            case 3: return place.news.size();
            case 4: return (int) objectsOf(place.applied).stream().filter(o -> isThere(place.applied, o)).count();
            case 5: return place.last()[0];
            case 6: return place.last()[1];
            case 7: return (int) place.applied.stream().filter(c -> isStable(place, node, c)).count();
            case 8: return place.turns.size();
            case 9: return place.now();
            default: return what >= 10 && what <= 13 ? place.known(what - 10) : -1;
        }
    }

    int total(int what) {
        switch (what) {
            case 0: return kinds.size();
            case 1: return tape.length();
            case 2: return line.size();
            case 3: return lost;
            case 4: return made[0] + made[1] + made[2] + made[3];
            case 5: return refused;
            default: return -1;
        }
    }
}
