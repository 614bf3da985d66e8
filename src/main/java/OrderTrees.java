/**
 * Things to be put in a row and groups of them that must be side by side: the tree of all rows
 * that have every group taken, its rows by number, and why a group was refused.
 */
public final class OrderTrees {
    public static final int NONE = -1, BAD = -2, NOT = -3, FULL = -4;

    private static final int MOST_THINGS = 8;
    private static final int THINGS_AT_FIRST = 5;
    private static final int MOST_GROUPS = 10;
    private static final int MOST_BYTES = 8;
    private static final int MOST_ROWS = 40320;
    private static final int MOST_NODES = 7;
    private static final int MOST_SHOWN = 40;
    private static final int SETS = 256;
    private static final int BYTES = 256;
    private static final int FIRST_LETTER = 'a';

    private static final int NULL = 1, INDEX = 2, CAST = 3, STORE = 4, SIZE = 5;
    private static final int FINDINGS = -10;
    private static final int LEAST_INT = 1 << 31;

    private static final int[] FACTORIALS = {1, 1, 2, 6, 24, 120, 720, 5040, 40320};
    private static final int[] DIGEST_ROWS = {0, 1, 2, 5, 100};
    private static final int[] DIGEST_SETS = {3, 6, 12, 5, 7, 14};

    private int thingCount = THINGS_AT_FIRST;
    private final int[] groups = new int[MOST_GROUPS];
    private int groupCount = 0;
    private int takenBits = 0;
    private final int[] told = new int[MOST_BYTES];
    private int toldCount = 0;
    private int latestFinding = 0;
    private final Sheets sheets = new Sheets();

    private final Tree shown = new Tree();
    private final int[] text = new int[MOST_SHOWN];
    private int textSize = 0;

    // Every call works in these again, so that no call makes anything that stays.
    private final Tree base = new Tree();
    private final Tree trial = new Tree();
    private final int[] rowThings = new int[MOST_THINGS];
    private final int[] places = new int[MOST_THINGS];

    public OrderTrees() {
        drawAll();
    }

    // ---- things, groups

    public int things(int n) {
        if (n < 1 || n > MOST_THINGS) {
            return BAD;
        }
        int was = thingCount;
        thingCount = n;
        drawAll();
        return was;
    }

    public int group(int set) {
        if (!isSet(set) || Integer.bitCount(set) < 2) {
            return BAD;
        }
        if (groupCount >= MOST_GROUPS) {
            return FULL;
        }
        groups[groupCount] = set;
        groupCount++;
        takeGroup(groupCount - 1);
        textSize = shown.show(text);
        return taken(groupCount - 1);
    }

    public int back() {
        if (groupCount < 1) {
            return NOT;
        }
        groupCount--;
        drawAll();
        return groupCount;
    }

    public int taken(int i) {
        if (!isGroup(i)) {
            return BAD;
        }
        return isTaken(i) ? 1 : 0;
    }

    public int reason(int i) {
        if (!isGroup(i)) {
            return BAD;
        }
        if (isTaken(i)) {
            return NOT;
        }
        int left = takenBits & ((1 << i) - 1);
        base.plant(thingCount);
        base.reduce(groups[i]);
        for (int j = 0; j < i; j++) {
            if ((left >> j & 1) == 0) {
                continue;
            }
            trial.draw(base);
            boolean rowsLeft = true;
            for (int k = j + 1; k < i && rowsLeft; k++) {
                rowsLeft = (left >> k & 1) == 0 || trial.reduce(groups[k]);
            }
            if (!rowsLeft) {
                left &= ~(1 << j);
            } else if (!base.reduce(groups[j])) {
                // Those kept up to here refuse it by themselves: all behind them are left out.
                return left & ((2 << j) - 1);
            }
        }
        return left;
    }

    public int read(int s) {
        if (!isSheet(s)) {
            return BAD;
        }
        if (sheets.isLost(s)) {
            return found(NULL);
        }
        int came = 0;
        int size = sheets.sizeOf(s);
        while (came < size && group(sheets.item(s, came)) >= 0) {
            came++;
        }
        return came;
    }

    // ---- the tree, rows

    public long many() {
        return shown.rowCount();
    }

    public int tree(int i) {
        if (i < NONE || i >= MOST_SHOWN) {
            return BAD;
        }
        if (i == NONE) {
            return textSize;
        }
        return i < textSize ? text[i] : NONE;
    }

    public int node(int i, int what) {
        if (i < 0 || i >= MOST_NODES || what < 0 || what > 2) {
            return BAD;
        }
        if (i >= shown.nodeCount()) {
            return NONE;
        }
        if (what == 0) {
            return shown.isTurning(i) ? 1 : 0;
        }
        return what == 1 ? shown.partCount(i) : shown.thingsOf(i);
    }

    public int row(int i, int place) {
        if (!isRowNumber(i) || place < 0 || place >= MOST_THINGS) {
            return BAD;
        }
        if (i >= shown.rowCount() || place >= thingCount) {
            return NONE;
        }
        shown.layRow(i, rowThings);
        return rowThings[place];
    }

    public int may(int set) {
        if (!isSetOfThings(set)) {
            return BAD;
        }
        trial.draw(shown);
        return trial.reduce(set) ? 1 : 0;
    }

    public int must(int set) {
        if (!isSetOfThings(set)) {
            return BAD;
        }
        trial.draw(shown);
        return trial.reduce(set) && trial.rowCount() == shown.rowCount() ? 1 : 0;
    }

    public int apart(int a, int b, int what) {
        if (!isThing(a) || !isThing(b) || a == b || what < 0 || what > 1) {
            return BAD;
        }
        return shown.between(a, b, what == 1);
    }

    public int spare() {
        int spare = 0;
        long rows = shown.rowCount();
        base.plant(thingCount);
        for (int j = 0; j < groupCount; j++) {
            if (!isTaken(j)) {
                continue;
            }
            trial.draw(base);
            for (int k = j + 1; k < groupCount; k++) {
                if (isTaken(k)) {
                    trial.reduce(groups[k]);
                }
            }
            if (trial.rowCount() == rows) {
                spare |= 1 << j;
            }
            base.reduce(groups[j]);
        }
        return spare;
    }

    // ---- a row told

    public int type(int b) {
        if (b < 0 || b >= BYTES) {
            return BAD;
        }
        if (toldCount >= MOST_BYTES) {
            return FULL;
        }
        told[toldCount] = b;
        toldCount++;
        return toldCount;
    }

    public int wipe() {
        int had = toldCount;
        toldCount = 0;
        return had;
    }

    public int undo() {
        if (toldCount < 1) {
            return NOT;
        }
        toldCount--;
        return toldCount;
    }

    public int fault() {
        int seen = 0;
        for (int i = 0; i < toldCount; i++) {
            int thing = told[i] - FIRST_LETTER;
            if (!isThing(thing) || (seen >> thing & 1) != 0) {
                return i;
            }
            seen |= 1 << thing;
        }
        return toldCount == 0 || toldCount == thingCount ? NONE : toldCount;
    }

    public int misses() {
        if (toldCount == 0 || fault() != NONE) {
            return NOT;
        }
        findPlaces();
        int missed = 0;
        for (int i = 0; i < groupCount; i++) {
            if (!isSideBySide(groups[i])) {
                missed |= 1 << i;
            }
        }
        return missed;
    }

    public int number() {
        int missed = misses();
        if (missed == NOT) {
            return NOT;
        }
        if ((missed & takenBits) != 0) {
            return NONE;
        }
        return shown.numberOf(places);
    }

    // ---- sheets

    public int sheet(int s, int form, int n) {
        if (!isSheet(s) || !isForm(form) || n > Sheets.MOST_ITEMS) {
            return BAD;
        }
        if (n < 0) {
            return found(SIZE);
        }
        sheets.lay(s, form, n);
        return n;
    }

    public int lose(int s) {
        if (!isSheet(s)) {
            return BAD;
        }
        if (sheets.isLost(s)) {
            return found(NULL);
        }
        int had = sheets.sizeOf(s);
        sheets.drop(s);
        return had;
    }

    public int put(int s, int form, int i, int v) {
        if (!isSheet(s) || !isForm(form)) {
            return BAD;
        }
        int finding = findingOf(s, form, i);
        if (finding != 0) {
            return found(finding);
        }
        sheets.setItem(s, i, v);
        return 1;
    }

    public int get(int s, int form, int i) {
        if (!isSheet(s) || !isForm(form)) {
            return LEAST_INT;
        }
        int finding = findingOf(s, form, i);
        if (finding != 0) {
            found(finding);
            return LEAST_INT;
        }
        return sheets.item(s, i);
    }

    public int copy(int s, int i, int t, int j, int n) {
        if (!isSheet(s) || !isSheet(t)) {
            return BAD;
        }
        if (sheets.isLost(s) || sheets.isLost(t)) {
            return found(NULL);
        }
        if (sheets.formOf(s) != sheets.formOf(t)) {
            return found(STORE);
        }
        if (!sheets.hasItems(s, i, n) || !sheets.hasItems(t, j, n)) {
            return found(INDEX);
        }
        sheets.move(s, i, t, j, n);
        return 1;
    }

    public int write(int i, int s) {
        if (!isRowNumber(i) || !isSheet(s)) {
            return BAD;
        }
        if (sheets.isLost(s)) {
            return found(NULL);
        }
        if (i >= shown.rowCount()) {
            return 0;
        }
        shown.layRow(i, rowThings);
        int written = Math.min(sheets.sizeOf(s), thingCount);
        for (int place = 0; place < written; place++) {
            sheets.setItem(s, place, rowThings[place]);
        }
        return written;
    }

    public int count(int what) {
        switch (what) {
            case 0: return thingCount;
            case 1: return groupCount;
            case 2: return Integer.bitCount(takenBits);
            case 3: return shown.nodeCount();
            case 4: return shown.turningCount();
            case 5: return (int) shown.rowCount();
            case 6: return textSize;
            case 7: return toldCount;
            case 8: return latestFinding;
            default: return BAD;
        }
    }

    public long digest() {
        long h = 17;
        for (int what = 0; what <= 7; what++) {
            h = 31 * h + count(what);
        }
        for (int i = 0; i < groupCount; i++) {
            h = 31 * h + taken(i);
            h = 31 * h + reason(i);
        }
        h = 31 * h + many();
        for (int i = NONE; i < MOST_SHOWN; i++) {
            h = 31 * h + tree(i);
        }
        for (int i = 0; i < MOST_NODES; i++) {
            for (int what = 0; what <= 2; what++) {
                h = 31 * h + node(i, what);
            }
        }
        for (int i : DIGEST_ROWS) {
            for (int place = 0; place < MOST_THINGS; place++) {
                h = 31 * h + row(i, place);
            }
        }
        for (int set : DIGEST_SETS) {
            h = 31 * h + may(set);
            h = 31 * h + must(set);
        }
        for (int a = 0; a < thingCount; a++) {
            for (int b = 0; b < thingCount; b++) {
                h = 31 * h + apart(a, b, 0);
                h = 31 * h + apart(a, b, 1);
            }
        }
        h = 31 * h + spare();
        h = 31 * h + fault();
        h = 31 * h + misses();
        return 31 * h + number();
    }

    // ---- what the calls share

    /** What is taken depends on how many things there are, so all groups are judged anew. */
    private void drawAll() {
        shown.plant(thingCount);
        takenBits = 0;
        for (int i = 0; i < groupCount; i++) {
            takeGroup(i);
        }
        textSize = shown.show(text);
    }

    private void takeGroup(int i) {
        int bit = 1 << i;
        takenBits &= ~bit;
        trial.draw(shown);
        if (trial.reduce(groups[i])) {
            shown.draw(trial);
            takenBits |= bit;
        }
    }

    private void findPlaces() {
        for (int i = 0; i < toldCount; i++) {
            int thing = told[i] - FIRST_LETTER;
            if (isThing(thing)) {
                places[thing] = i;
            }
        }
    }

    private boolean isSideBySide(int set) {
        int first = MOST_THINGS;
        int last = -1;
        int size = 0;
        for (int thing = 0; thing < thingCount; thing++) {
            if ((set >> thing & 1) != 0) {
                first = Math.min(first, places[thing]);
                last = Math.max(last, places[thing]);
                size++;
            }
        }
        return size < 2 || last - first + 1 == size;
    }

    private int findingOf(int s, int form, int i) {
        if (sheets.isLost(s)) {
            return NULL;
        }
        if (sheets.formOf(s) != form) {
            return CAST;
        }
        return i < 0 || i >= sheets.sizeOf(s) ? INDEX : 0;
    }

    private int found(int finding) {
        latestFinding = finding;
        return FINDINGS - finding;
    }

    private boolean isTaken(int i) {
        return (takenBits >> i & 1) != 0;
    }

    private boolean isGroup(int i) {
        return i >= 0 && i < groupCount;
    }

    private boolean isThing(int thing) {
        return thing >= 0 && thing < thingCount;
    }

    private boolean isSetOfThings(int set) {
        return isSet(set) && set >> thingCount == 0;
    }

    private static boolean isSet(int set) {
        return set >= 0 && set < SETS;
    }

    private static boolean isRowNumber(int i) {
        return i >= 0 && i < MOST_ROWS;
    }

    private static boolean isSheet(int s) {
        return s >= 0 && s < Sheets.SHEETS;
    }

    private static boolean isForm(int form) {
        return form >= Sheets.BYTE_FORM && form <= Sheets.INT_FORM;
    }

    private static int factorial(int k) {
        return k < 0 || k >= FACTORIALS.length ? 1 : FACTORIALS[k];
    }

    /**
     * A tree of things. A part is told by its id: 0 to 7 are the things themselves, ids from FIRST
     * on are nodes. In a tree that was drawn the nodes stand behind FIRST as they are shown.
     */
    private static final class Tree {
        private static final int FREE = 0, TURNING = 1;
        private static final int EMPTY = 0, PARTIAL = 1, WHOLE = 2;
        private static final int AHEAD = 0, INSIDE = 1, BEHIND = 2;

        private static final int FIRST = MOST_THINGS;
        // Seven nodes at most are in a tree; while it is reduced a few more are in use.
        private static final int IDS = FIRST + 16;

        private final int[] kinds = new int[IDS];
        private final int[] sets = new int[IDS];
        // A node that has no parts is not in use.
        private final int[] sizes = new int[IDS];
        private final int[] parts = new int[IDS * MOST_THINGS];
        private int root = 0;
        private int nodes = 0;

        // The parts of the turning node that a reduction makes, and those that come at its end.
        private final int[] line = new int[MOST_THINGS];
        private int lineSize = 0;
        private final int[] held = new int[MOST_THINGS];
        private int heldSize = 0;
        // Nodes taken asunder keep their ids to the end: their own node still tells of them by those.
        private final int[] split = new int[MOST_NODES];
        private int splitSize = 0;

        private final int[] starts = new int[IDS];
        private final int[] lengths = new int[IDS];
        private final int[] chosen = new int[IDS];

        Tree() {
            for (int thing = 0; thing < MOST_THINGS; thing++) {
                sets[thing] = 1 << thing;
                lengths[thing] = 1;
            }
        }

        // ---- how it is made

        /** All rows of n things. */
        void plant(int n) {
            clear();
            if (n < 2) {
                return;
            }
            root = FIRST;
            nodes = 1;
            kinds[root] = FREE;
            for (int thing = 0; thing < n; thing++) {
                add(root, thing);
            }
        }

        /** The same rows as another tree, whose parts are put in order, too. */
        void draw(Tree other) {
            clear();
            root = place(other, other.root, this, 0);
        }

        private static int place(Tree from, int id, Tree to, int depth) {
            if (id < FIRST) {
                return id;
            }
            if (depth >= MOST_THINGS || to.nodes >= MOST_NODES) {
                return 0;
            }
            int here = FIRST + to.nodes;
            to.nodes++;
            to.kinds[here] = from.kinds[id];
            from.order(id);
            for (int i = 0; i < from.sizes[id]; i++) {
                to.add(here, place(from, from.part(id, i), to, depth + 1));
            }
            return here;
        }

        private void order(int node) {
            int last = sizes[node] - 1;
            if (kinds[node] == TURNING) {
                if (least(part(node, 0)) > least(part(node, last))) {
                    turn(parts, node * MOST_THINGS, node * MOST_THINGS + last);
                }
                return;
            }
            for (int i = 1; i <= last; i++) {
                int moved = part(node, i);
                int at = i;
                while (at > 0 && least(part(node, at - 1)) > least(moved)) {
                    setPart(node, at, part(node, at - 1));
                    at--;
                }
                setPart(node, at, moved);
            }
        }

        // ---- how a group reduces it

        /** Keeps the rows that have the group. False: there is none, and the tree is spoilt. */
        boolean reduce(int set) {
            int group = set & sets[root];
            if (Integer.bitCount(group) < 2) {
                return true;
            }
            int node = lowestWith(group);
            if (stateOf(node, group) == WHOLE) {
                return true;
            }
            lineSize = 0;
            splitSize = 0;
            boolean rowsLeft = kinds[node] == FREE
                ? reduceFree(node, group) : reduceTurning(node, group);
            giveBackSplit();
            return rowsLeft;
        }

        private int lowestWith(int group) {
            int node = root;
            for (int depth = 0; depth < MOST_THINGS; depth++) {
                int inner = NONE;
                for (int i = 0; i < sizes[node]; i++) {
                    if ((group & ~sets[part(node, i)]) == 0) {
                        inner = part(node, i);
                    }
                }
                if (inner == NONE) {
                    break;
                }
                node = inner;
            }
            return node;
        }

        private boolean reduceFree(int node, int group) {
            int one = partIn(node, group, PARTIAL, 0);
            int other = partIn(node, group, PARTIAL, 1);
            if (partIn(node, group, PARTIAL, 2) != NONE) {
                return false;
            }
            if (one != NONE && !splitToLine(one, group, true)) {
                return false;
            }
            append(bundle(node, group, WHOLE));
            if (other != NONE && !splitToLine(other, group, false)) {
                return false;
            }
            keepEmpty(node, group);
            if (sizes[node] == 0) {
                fillFromLine(node);
            } else if (lineSize == 1) {
                add(node, line[0]);
            } else {
                int made = unusedNode();
                fillFromLine(made);
                add(node, made);
            }
            return true;
        }

        private boolean reduceTurning(int node, int group) {
            int stage = AHEAD;
            for (int i = 0; i < sizes[node]; i++) {
                int id = part(node, i);
                int state = stateOf(id, group);
                if (state == EMPTY) {
                    stage = stage == AHEAD ? AHEAD : BEHIND;
                    append(id);
                } else if (stage == BEHIND) {
                    return false;
                } else if (state == WHOLE) {
                    stage = INSIDE;
                    append(id);
                } else {
                    boolean begins = stage == AHEAD;
                    if (!splitToLine(id, group, begins)) {
                        return false;
                    }
                    stage = begins ? INSIDE : BEHIND;
                }
            }
            fillFromLine(node);
            return true;
        }

        /** Takes a partial part asunder into the line, its things of the group at one end. */
        private boolean splitToLine(int id, int group, boolean wholeLast) {
            int start = lineSize;
            int node = id;
            heldSize = 0;
            for (int depth = 0; depth < MOST_THINGS && node != NONE; depth++) {
                int inner = partIn(node, group, PARTIAL, 0);
                if (partIn(node, group, PARTIAL, 1) != NONE) {
                    return false;
                }
                if (kinds[node] == FREE) {
                    append(bundle(node, group, EMPTY));
                    hold(bundle(node, group, WHOLE));
                } else if (!splitTurning(node, group)) {
                    return false;
                }
                markSplit(node);
                node = inner;
            }
            while (heldSize > 0) {
                heldSize--;
                append(held[heldSize]);
            }
            if (!wholeLast) {
                turn(line, start, lineSize - 1);
            }
            return true;
        }

        private boolean splitTurning(int node, int group) {
            int last = sizes[node] - 1;
            boolean asShown = stateOf(part(node, 0), group) == EMPTY
                || stateOf(part(node, last), group) == WHOLE;
            if (!asShown) {
                turn(parts, node * MOST_THINGS, node * MOST_THINGS + last);
            }
            int before = EMPTY;
            for (int i = 0; i <= last; i++) {
                int state = stateOf(part(node, i), group);
                if (state < before) {
                    return false;
                }
                before = state;
                if (state == EMPTY) {
                    append(part(node, i));
                }
            }
            for (int i = last; i >= 0 && stateOf(part(node, i), group) == WHOLE; i--) {
                hold(part(node, i));
            }
            return true;
        }

        /** The parts in one state, made one part: a free node, if they are several. */
        private int bundle(int node, int group, int state) {
            int made = unusedNode();
            kinds[made] = FREE;
            sets[made] = 0;
            for (int i = 0; i < sizes[node]; i++) {
                if (stateOf(part(node, i), group) == state) {
                    add(made, part(node, i));
                }
            }
            if (sizes[made] == 0) {
                return NONE;
            }
            if (sizes[made] == 1) {
                sizes[made] = 0;
                return part(made, 0);
            }
            return made;
        }

        private void keepEmpty(int node, int group) {
            int size = sizes[node];
            sizes[node] = 0;
            sets[node] = 0;
            for (int i = 0; i < size; i++) {
                if (stateOf(part(node, i), group) == EMPTY) {
                    add(node, part(node, i));
                }
            }
        }

        private void fillFromLine(int node) {
            kinds[node] = TURNING;
            sizes[node] = 0;
            sets[node] = 0;
            for (int i = 0; i < lineSize; i++) {
                add(node, line[i]);
            }
        }

        private void markSplit(int node) {
            if (splitSize < MOST_NODES) {
                split[splitSize] = node;
                splitSize++;
            }
        }

        private void giveBackSplit() {
            for (int i = 0; i < splitSize; i++) {
                sizes[split[i]] = 0;
            }
        }

        /** The part that is the nth (0 on) of those in one state; NONE. */
        private int partIn(int node, int group, int state, int nth) {
            int ahead = 0;
            for (int i = 0; i < sizes[node]; i++) {
                if (stateOf(part(node, i), group) == state) {
                    if (ahead == nth) {
                        return part(node, i);
                    }
                    ahead++;
                }
            }
            return NONE;
        }

        private int stateOf(int id, int group) {
            int inside = sets[id] & group;
            if (inside == 0) {
                return EMPTY;
            }
            return inside == sets[id] ? WHOLE : PARTIAL;
        }

        // ---- what it tells, when it was drawn

        int nodeCount() {
            return nodes;
        }

        boolean isTurning(int i) {
            return i >= 0 && i < nodes && kinds[FIRST + i] == TURNING;
        }

        int partCount(int i) {
            return i >= 0 && i < nodes ? sizes[FIRST + i] : 0;
        }

        int thingsOf(int i) {
            return i >= 0 && i < nodes ? sets[FIRST + i] : 0;
        }

        int turningCount() {
            int turning = 0;
            for (int i = 0; i < nodes; i++) {
                turning += kinds[FIRST + i];
            }
            return turning;
        }

        /** How many rows it has; a tree that was reduced needs no drawing for it. */
        long rowCount() {
            long rows = 1;
            for (int id = FIRST; id < IDS; id++) {
                if (sizes[id] > 0) {
                    rows *= ways(id);
                }
            }
            return rows;
        }

        /** Writes it as it is shown; how many bytes. */
        int show(int[] bytes) {
            if (nodes == 0) {
                setAt(bytes, 0, FIRST_LETTER + root);
                return 1;
            }
            // A part's id is above its node's, so from the last on all lengths are there in time.
            for (int id = FIRST + nodes - 1; id >= FIRST; id--) {
                lengths[id] = 2;
                for (int i = 0; i < sizes[id]; i++) {
                    lengths[id] += lengths[part(id, i)];
                }
            }
            starts[root] = 0;
            for (int id = FIRST; id < FIRST + nodes; id++) {
                int at = starts[id];
                setAt(bytes, at, kinds[id] == FREE ? '(' : '[');
                at++;
                for (int i = 0; i < sizes[id]; i++) {
                    int inner = part(id, i);
                    starts[inner] = at;
                    if (inner < FIRST) {
                        setAt(bytes, at, FIRST_LETTER + inner);
                    }
                    at += lengths[inner];
                }
                setAt(bytes, at, kinds[id] == FREE ? ')' : ']');
            }
            return lengths[root];
        }

        /** Writes the things of a row that there is. */
        void layRow(int number, int[] row) {
            int rest = number;
            // The last node's way is the one that changes first.
            for (int id = FIRST + nodes - 1; id >= FIRST; id--) {
                int ways = Math.max(ways(id), 1);
                chosen[id] = rest % ways;
                rest /= ways;
            }
            starts[root] = 0;
            for (int id = FIRST; id < FIRST + nodes; id++) {
                layParts(id, chosen[id]);
            }
            for (int thing = 0; thing < MOST_THINGS; thing++) {
                if ((sets[root] >> thing & 1) != 0) {
                    setAt(row, starts[thing], thing);
                }
            }
        }

        /** Finds where each part starts in a row, by its node's way. */
        private void layParts(int node, int way) {
            int size = sizes[node];
            int at = starts[node];
            int unused = (1 << size) - 1;
            int rest = way;
            for (int i = 0; i < size; i++) {
                int index = way == 0 ? i : size - 1 - i;
                if (kinds[node] == FREE) {
                    int orders = Math.max(factorial(size - 1 - i), 1);
                    index = nthBit(unused, rest / orders);
                    rest %= orders;
                    unused &= ~(1 << index);
                }
                int id = part(node, index);
                starts[id] = at;
                at += Integer.bitCount(sets[id]);
            }
        }

        private static int nthBit(int bits, int nth) {
            int ahead = 0;
            for (int i = 0; i < MOST_THINGS; i++) {
                if ((bits >> i & 1) != 0) {
                    if (ahead == nth) {
                        return i;
                    }
                    ahead++;
                }
            }
            return 0;
        }

        /** The number of a row that it has, told by the place of each thing. */
        int numberOf(int[] placeOf) {
            int number = 0;
            for (int id = FIRST; id < FIRST + nodes; id++) {
                number = number * ways(id) + wayOf(id, placeOf);
            }
            return number;
        }

        private int wayOf(int node, int[] placeOf) {
            int size = sizes[node];
            for (int i = 0; i < size; i++) {
                int id = part(node, i);
                starts[id] = placeOf[leastThing(id)];
            }
            if (kinds[node] == TURNING) {
                return starts[part(node, 0)] < starts[part(node, size - 1)] ? 0 : 1;
            }
            int way = 0;
            for (int i = 0; i < size; i++) {
                int ahead = 0;
                int lessBehind = 0;
                for (int j = 0; j < size; j++) {
                    if (starts[part(node, j)] < starts[part(node, i)]) {
                        ahead++;
                    } else if (j < i) {
                        lessBehind++;
                    }
                }
                way += lessBehind * factorial(size - 1 - ahead);
            }
            return way;
        }

        /** The least or the greatest number of things between two things. */
        int between(int a, int b, boolean greatest) {
            int both = sets[a] | sets[b];
            int lowest = root;
            int sum = 0;
            for (int id = FIRST; id < FIRST + nodes; id++) {
                int inside = sets[id] & both;
                if (inside == both) {
                    lowest = id;
                } else if (inside != 0) {
                    sum += besideIn(id, inside, greatest);
                }
            }
            return sum + betweenIn(lowest, sets[a], sets[b], greatest);
        }

        /** How many of a node's things in other parts are at one side of a thing. */
        private int besideIn(int node, int thing, boolean greatest) {
            int ahead = 0;
            int behind = 0;
            boolean passed = false;
            for (int i = 0; i < sizes[node]; i++) {
                int set = sets[part(node, i)];
                if ((set & thing) != 0) {
                    passed = true;
                } else if (passed) {
                    behind += Integer.bitCount(set);
                } else {
                    ahead += Integer.bitCount(set);
                }
            }
            if (kinds[node] == FREE) {
                return greatest ? ahead + behind : 0;
            }
            return greatest ? Math.max(ahead, behind) : Math.min(ahead, behind);
        }

        /** How many of a node's things are in parts between those of two things. */
        private int betweenIn(int node, int a, int b, boolean greatest) {
            int others = 0;
            int inside = 0;
            int passed = 0;
            for (int i = 0; i < sizes[node]; i++) {
                int set = sets[part(node, i)];
                if ((set & (a | b)) != 0) {
                    passed++;
                } else {
                    others += Integer.bitCount(set);
                    inside += passed == 1 ? Integer.bitCount(set) : 0;
                }
            }
            if (kinds[node] == FREE) {
                return greatest ? others : 0;
            }
            return inside;
        }

        // ---- its parts

        private void clear() {
            for (int id = FIRST; id < IDS; id++) {
                sizes[id] = 0;
                sets[id] = 0;
            }
            root = 0;
            nodes = 0;
        }

        /** A tree never fills all ids, so that one is always found. */
        private int unusedNode() {
            int id = FIRST;
            while (id < IDS - 1 && sizes[id] > 0) {
                id++;
            }
            return id;
        }

        private int part(int node, int i) {
            return i >= 0 && i < MOST_THINGS ? parts[node * MOST_THINGS + i] : 0;
        }

        private void setPart(int node, int i, int id) {
            if (i >= 0 && i < MOST_THINGS) {
                parts[node * MOST_THINGS + i] = id;
            }
        }

        private void add(int node, int id) {
            if (sizes[node] < MOST_THINGS) {
                parts[node * MOST_THINGS + sizes[node]] = id;
                sizes[node]++;
                sets[node] |= sets[id];
            }
        }

        private void append(int id) {
            if (id != NONE && lineSize < MOST_THINGS) {
                line[lineSize] = id;
                lineSize++;
            }
        }

        private void hold(int id) {
            if (id != NONE && heldSize < MOST_THINGS) {
                held[heldSize] = id;
                heldSize++;
            }
        }

        private int ways(int node) {
            return kinds[node] == FREE ? factorial(sizes[node]) : 2;
        }

        /** The bit of the least thing: bits stand in the things' order. */
        private int least(int id) {
            return sets[id] & -sets[id];
        }

        private int leastThing(int id) {
            return Integer.bitCount(least(id) - 1) & (MOST_THINGS - 1);
        }

        private static void setAt(int[] row, int at, int value) {
            if (at >= 0 && at < row.length) {
                row[at] = value;
            }
        }

        private static void turn(int[] row, int from, int to) {
            int low = from;
            int high = to;
            while (low < high) {
                int kept = row[low];
                row[low] = row[high];
                row[high] = kept;
                low++;
                high--;
            }
        }
    }

    /** Rows of items with a form each; a sheet that has none is lost. */
    private static final class Sheets {
        static final int SHEETS = 4;
        static final int MOST_ITEMS = 60;
        static final int BYTE_FORM = 0, SHORT_FORM = 1, INT_FORM = 2;
        private static final int LOST = -1;

        private final int[] forms = {LOST, LOST, LOST, LOST};
        private final int[] sizes = new int[SHEETS];
        private final int[] items = new int[SHEETS * MOST_ITEMS];

        boolean isLost(int s) {
            return forms[s] == LOST;
        }

        int formOf(int s) {
            return forms[s];
        }

        int sizeOf(int s) {
            return sizes[s];
        }

        void lay(int s, int form, int size) {
            forms[s] = form;
            sizes[s] = size;
            for (int i = 0; i < size; i++) {
                items[s * MOST_ITEMS + i] = 0;
            }
        }

        void drop(int s) {
            forms[s] = LOST;
            sizes[s] = 0;
        }

        /** Whether n items are there from i on; none are at the end of all, too. */
        boolean hasItems(int s, int i, int n) {
            return i >= 0 && n >= 0 && i <= sizes[s] - n;
        }

        int item(int s, int i) {
            return items[s * MOST_ITEMS + i];
        }

        void setItem(int s, int i, int v) {
            int kept = v;
            if (forms[s] == BYTE_FORM) {
                kept = (byte) v;
            } else if (forms[s] == SHORT_FORM) {
                kept = (short) v;
            }
            items[s * MOST_ITEMS + i] = kept;
        }

        void move(int s, int i, int t, int j, int n) {
            System.arraycopy(items, s * MOST_ITEMS + i, items, t * MOST_ITEMS + j, n);
        }
    }
}
