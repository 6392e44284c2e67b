/**
 * A bridge to records, constants and families, as ../shared/DOC.md tells it.
 *
 * Inside, a number of a FLOAT or a DOUBLE is held by its bits, as it is TOLD; a THING and a ROW by
 * their numbers, with NOTHING for nothing. So every cell and every PART is one long, whatever its LANE.
 */
public final class RecordBridge {
    public static final int UNKNOWN = -1, OUTSIDE = -2, NO = -3, FULL = -4, NONE = -5;
    public static final long LOST = Long.MIN_VALUE;

    private static final int NULL = 1, INDEX = 2, CAST = 3, SIZE = 4, THROWN = 5;
    private static final int FAULT_BASE = -10;
    private static final int FINE = 0;

    private static final int NOTHING = -1;
    private static final int MOST_ROWS = 60, MOST_CELLS = 20;
    private static final int MOST_KINDS = 16, MOST_EDITIONS = 4, MOST_FAMILIES = 8;
    private static final int MOST_PARTS = 6, MOST_CONSTANTS = 8;
    private static final int MOST_VALUES = 200, MOST_SIZE = 300, MOST_DEEP = 8;
    private static final int MOST_BYTES = 4000, MOST_DIGITS = 20;
    private static final int LAST_LABEL = 99, LAST_RULE = 4, LAST_BODY = 3;

    private static final int RULE_RISING = 1, RULE_EXCHANGED = 2, RULE_WHOLE = 3, RULE_TWINS = 4;
    private static final int TO_ADD = 0, TO_DROP = 1, TO_CHANGE = 2, TO_REVERSE = 3;
    private static final int ELDER_MARK = 1, YOUNGER_MARK = 7, LENT_WEIGHT = 10;

    private final Store store;
    private final Tray tray;
    private final Draft draft;
    private final Comparer comparer;
    private final Scribe scribe;
    private final Kind[] kindTable;
    private final int[] familyKinds;
    private final boolean[] familySealed;
    private int kindCount;
    private int familyCount;
    private int startedCount;
    private int traced;
    private int latestFault;
    private int faultCount;

    public RecordBridge() {
        store = new Store();
        tray = new Tray();
        draft = new Draft(store);
        comparer = new Comparer(store);
        scribe = new Scribe(store);
        kindTable = new Kind[MOST_KINDS];
        familyKinds = new int[MOST_FAMILIES];
        familySealed = new boolean[MOST_FAMILIES];
    }

    // ---- rows

    public int row(int lane, int n) {
        if (!isWithin(lane, Lanes.TRUTH, Lanes.THING) || n > MOST_CELLS) {
            return OUTSIDE;
        }
        if (!store.hasRoomForRows(1)) {
            return FULL;
        }
        if (n < 0) {
            return failed(SIZE);
        }
        return store.addRow(lane, n, false).number;
    }

    public int put(int row, int i, int lane, long v) {
        Row r = store.findRow(row);
        if (r == null) {
            return UNKNOWN;
        }
        if (!Lanes.isNumber(lane)) {
            return OUTSIDE;
        }
        int fault = numberFault(r, i, lane, r.lane);
        if (fault != FINE) {
            return failed(fault);
        }
        r.cells[i] = Lanes.widen(lane, r.lane, Lanes.come(lane, v));
        return 1;
    }

    public long get(int row, int i, int lane) {
        Row r = store.findRow(row);
        if (r == null || !Lanes.isNumber(lane)) {
            return LOST;
        }
        int fault = numberFault(r, i, r.lane, lane);
        if (fault != FINE) {
            return lost(fault);
        }
        return Lanes.widen(r.lane, lane, r.cells[i]);
    }

    public int lay(int row, int i, int value) {
        Row r = store.findRow(row);
        if (r == null || (value != NOTHING && store.findValue(value) == null)) {
            return UNKNOWN;
        }
        if (r.isKept) {
            return NO;
        }
        int fault = thingFault(r, i);
        if (fault != FINE) {
            return failed(fault);
        }
        r.cells[i] = value;
        return 1;
    }

    public int at(int row, int i) {
        Row r = store.findRow(row);
        if (r == null) {
            return UNKNOWN;
        }
        int fault = thingFault(r, i);
        if (fault != FINE) {
            return failed(fault);
        }
        return (int) Lanes.tell(r.lane, r.cells[i]);
    }

    public int length(int row, int what) {
        Row r = store.findRow(row);
        if (r == null) {
            return UNKNOWN;
        }
        switch (what) {
            case 0:
                return r.lane;
            case 1:
                return r.cells.length;
            case 2:
                return oneIf(r.isKept);
            default:
                return OUTSIDE;
        }
    }

    public int copy(int row, int i, int other, int k, int n) {
        Row from = store.findRow(row);
        Row to = store.findRow(other);
        if (from == null || to == null) {
            return UNKNOWN;
        }
        if (from.lane != to.lane || to.isKept) {
            return NO;
        }
        if (!from.hasRun(i, n) || !to.hasRun(k, n)) {
            return failed(INDEX);
        }
        System.arraycopy(from.cells, i, to.cells, k, n);
        return n;
    }

    public int twin(int row) {
        Row r = store.findRow(row);
        if (r == null) {
            return UNKNOWN;
        }
        return freeTwin(r);
    }

    // ---- kinds

    public int record(int rule) {
        return isWithin(rule, 0, LAST_RULE) ? newKind(false, rule) : OUTSIDE;
    }

    public int constants(int body) {
        return isWithin(body, 0, LAST_BODY) ? newKind(true, body) : OUTSIDE;
    }

    public int more(int kind, int word, int lane) {
        Kind k = findKind(kind);
        if (k == null) {
            return UNKNOWN;
        }
        if (!isLabel(word) || !k.takesLane(lane)) {
            return OUTSIDE;
        }
        Edition first = k.newest();
        if (k.isStarted || first.find(word) != NOTHING) {
            return NO;
        }
        if (first.isFull()) {
            return FULL;
        }
        first.add(word, lane);
        return first.count;
    }

    public int edition(int kind, int what, int word, int lane) {
        Kind k = findKind(kind);
        if (k == null) {
            return UNKNOWN;
        }
        if (!isChange(k, what, word, lane)) {
            return OUTSIDE;
        }
        if (!k.isStarted || (what == TO_CHANGE && k.isConstants)) {
            return NO;
        }
        boolean isThere = k.newest().find(word) != NOTHING;
        if (what != TO_REVERSE && isThere == (what == TO_ADD)) {
            return NO;
        }
        if (!hasRoomForChange(k, what)) {
            return FULL;
        }
        Edition next = k.addEdition();
        change(next, what, word, lane);
        if (what == TO_ADD && k.isConstants) {
            addConstant(k, next.count - 1);
        }
        return next.number;
    }

    public int family(int kinds, boolean isSealed) {
        int known = (1 << kindCount) - 1;
        if ((kinds & ~known) != 0) {
            return OUTSIDE;
        }
        if (familyCount >= MOST_FAMILIES) {
            return FULL;
        }
        familyKinds[familyCount] = kinds;
        familySealed[familyCount] = isSealed;
        familyCount++;
        return familyCount - 1;
    }

    public int info(int kind, int what) {
        Kind k = findKind(kind);
        if (k == null) {
            return UNKNOWN;
        }
        switch (what) {
            case 0:
                return oneIf(k.isConstants);
            case 1:
                return k.newest().count;
            case 2:
                return k.newest().number;
            case 3:
                return oneIf(k.isStarted);
            case 4:
                return k.made;
            default:
                return OUTSIDE;
        }
    }

    // ---- values

    public int give(int k, int lane, long v) {
        if (!isPlace(k) || !Lanes.isNumber(lane)) {
            return OUTSIDE;
        }
        tray.place(k, lane, Lanes.come(lane, v));
        return 1;
    }

    public int hand(int k, int number, boolean isRow) {
        boolean isThere = isRow ? store.findRow(number) != null : store.findValue(number) != null;
        if (number != NOTHING && !isThere) {
            return UNKNOWN;
        }
        if (!isPlace(k)) {
            return OUTSIDE;
        }
        if (number == NOTHING) {
            tray.empty(k);
        } else {
            tray.place(k, isRow ? Lanes.ROW : Lanes.THING, number);
        }
        return 1;
    }

    public int make(int kind) {
        Kind k = findKind(kind);
        if (k == null) {
            return UNKNOWN;
        }
        if (k.isConstants) {
            return NO;
        }
        if (!store.hasRoomForValues(1)) {
            return FULL;
        }
        start(k);
        int fault = draft.takeTray(tray, k.newest());
        if (fault != FINE) {
            return failed(fault);
        }
        int answer = finish(k);
        if (answer >= 0) {
            tray.emptyAll();
        }
        return answer;
    }

    public int named(int kind, int word) {
        Kind k = findKind(kind);
        if (k == null) {
            return UNKNOWN;
        }
        Edition newest = k.newest();
        int i = newest.find(word);
        if (!k.isConstants || i == NOTHING) {
            return NO;
        }
        if (!k.isStarted && !store.hasRoomForValues(newest.count)) {
            return FULL;
        }
        start(k);
        return newest.members[i];
    }

    public long part(int value, int k) {
        Value v = store.findValue(value);
        if (v == null || v.kind.isConstants) {
            return LOST;
        }
        if (!v.hasPart(k)) {
            return lost(INDEX);
        }
        return v.tellPart(k);
    }

    public long accessor(int value, int word) {
        Value v = store.findValue(value);
        if (v == null || v.kind.isConstants) {
            return LOST;
        }
        int k = v.edition.find(word);
        return k == NOTHING ? LOST : v.tellPart(k);
    }

    public int of(int value, int what) {
        Value v = store.findValue(value);
        if (v == null) {
            return UNKNOWN;
        }
        switch (what) {
            case 0:
                return v.kind.number;
            case 1:
                return v.edition.number;
            case 2:
                return v.size;
            case 3:
                return v.manieth;
            case 4:
                return v.label;
            case 5:
                return v.deep;
            default:
                return OUTSIDE;
        }
    }

    public int array(int value, int k, boolean isShared) {
        Value v = store.findValue(value);
        if (v == null) {
            return UNKNOWN;
        }
        if (v.kind.isConstants) {
            return NO;
        }
        if (!v.hasPart(k)) {
            return failed(INDEX);
        }
        if (v.edition.lanes[k] != Lanes.ROW) {
            return failed(CAST);
        }
        Row r = store.findRow(v.parts[k]);
        if (r == null) {
            return failed(NULL);
        }
        return isShared ? r.number : freeTwin(r);
    }

    public int match(int family, int value) {
        Value v = store.findValue(value);
        if (!isWithin(family, 0, familyCount - 1) || v == null) {
            return UNKNOWN;
        }
        int bit = 1 << v.kind.number;
        if ((familyKinds[family] & bit) == 0) {
            return familySealed[family] ? NO : NONE;
        }
        return Integer.bitCount(familyKinds[family] & (bit - 1));
    }

    public int equal(int a, int b) {
        Value first = store.findValue(a);
        Value second = store.findValue(b);
        if (first == null || second == null) {
            return UNKNOWN;
        }
        // ORDER looks at all that EQUAL looks at, so it finds no difference just where they are EQUAL
        return oneIf(comparer.compareValues(first, second) == 0);
    }

    public int order(int a, int b) {
        Value first = store.findValue(a);
        Value second = store.findValue(b);
        if (first == null || second == null) {
            return UNKNOWN;
        }
        return comparer.compareValues(first, second) - 100;
    }

    public long hash(int value) {
        Value v = store.findValue(value);
        return v == null ? LOST : comparer.hashValue(v);
    }

    public int weight(int value) {
        Value v = store.findValue(value);
        return v == null ? UNKNOWN : weigh(v);
    }

    public int show(int value) {
        Value v = store.findValue(value);
        if (v == null) {
            return UNKNOWN;
        }
        return scribe.writes(v) ? scribe.shown.count : FULL;
    }

    public int byteAt(int i) {
        Text shown = scribe.shown;
        return isWithin(i, 0, shown.count - 1) ? shown.bytes[i] : NONE;
    }

    public int carry(int value) {
        Value v = store.findValue(value);
        if (v == null) {
            return UNKNOWN;
        }
        Kind k = v.kind;
        if (k.isConstants) {
            return k.newest().find(v.label) == NOTHING ? NO : v.number;
        }
        if (!store.hasRoomForValues(1)) {
            return FULL;
        }
        int fault = draft.takeValue(v, k.newest());
        if (fault != FINE) {
            return failed(fault);
        }
        return finish(k);
    }

    // ---- what is told

    public int trace() {
        return traced;
    }

    public int fault() {
        return latestFault;
    }

    public int told(int what) {
        switch (what) {
            case 0:
                return store.rowCount;
            case 1:
                return kindCount;
            case 2:
                return familyCount;
            case 3:
                return store.valueCount;
            case 4:
                return startedCount;
            case 5:
                return faultCount;
            default:
                return OUTSIDE;
        }
    }

    // ---- faults and traces

    private int failed(int fault) {
        latestFault = fault;
        faultCount++;
        return FAULT_BASE - fault;
    }

    private long lost(int fault) {
        failed(fault);
        return LOST;
    }

    private void leaveTrace(int number) {
        traced = 31 * traced + number;
    }

    // ---- tests of arguments

    private static boolean isWithin(int n, int least, int most) {
        return n >= least && n <= most;
    }

    private static boolean isLabel(int word) {
        return isWithin(word, 1, LAST_LABEL);
    }

    private static boolean isPlace(int k) {
        return isWithin(k, 0, MOST_PARTS - 1);
    }

    private static int oneIf(boolean isSo) {
        return isSo ? 1 : 0;
    }

    private static int numberFault(Row r, int i, int from, int to) {
        if (r.lane == Lanes.THING) {
            return CAST;
        }
        if (!r.hasCell(i)) {
            return INDEX;
        }
        return Lanes.isWidened(from, to) ? FINE : CAST;
    }

    private static int thingFault(Row r, int i) {
        if (r.lane != Lanes.THING) {
            return CAST;
        }
        return r.hasCell(i) ? FINE : INDEX;
    }

    private int freeTwin(Row r) {
        return store.hasRoomForRows(1) ? store.addTwin(r, false).number : FULL;
    }

    // ---- kinds and their starts

    private Kind findKind(int kind) {
        return isWithin(kind, 0, kindCount - 1) ? kindTable[kind] : null;
    }

    private int newKind(boolean isConstants, int trait) {
        if (kindCount >= MOST_KINDS) {
            return FULL;
        }
        kindTable[kindCount] = new Kind(kindCount, isConstants, trait);
        kindCount++;
        return kindCount - 1;
    }

    private static boolean isChange(Kind k, int what, int word, int lane) {
        if (!isWithin(what, TO_ADD, TO_REVERSE)) {
            return false;
        }
        boolean isWordFit = what == TO_REVERSE || isLabel(word);
        boolean isLaneFit = what == TO_DROP || what == TO_REVERSE || k.takesLane(lane);
        return isWordFit && isLaneFit;
    }

    private boolean hasRoomForChange(Kind k, int what) {
        if (!k.hasRoomForEdition()) {
            return false;
        }
        if (what != TO_ADD) {
            return true;
        }
        return !k.newest().isFull() && (!k.isConstants || store.hasRoomForValues(1));
    }

    private static void change(Edition e, int what, int word, int lane) {
        int i = e.find(word);
        switch (what) {
            case TO_ADD:
                e.add(word, lane);
                break;
            case TO_DROP:
                e.drop(i);
                break;
            case TO_CHANGE:
                e.changeLane(i, lane);
                break;
            default:
                e.reverse();
                break;
        }
    }

    private void start(Kind k) {
        if (k.isStarted) {
            return;
        }
        k.isStarted = true;
        startedCount++;
        leaveTrace(100 + k.number);
        if (k.isConstants) {
            int count = k.newest().count;
            for (int i = 0; i < count; i++) {
                addConstant(k, i);
            }
        }
    }

    private void addConstant(Kind k, int i) {
        Edition e = k.newest();
        e.members[i] = store.addValue(new Value(store.valueCount, k, e.labels[i], new long[0], 1, 1));
    }

    // ---- the end of a making, alike for make() and carry()

    private int finish(Kind k) {
        Edition e = k.newest();
        if (!store.hasRoomForRows(draft.countTwins(e, k.trait))) {
            return FULL;
        }
        if (!draft.obeys(e, k.trait)) {
            return failed(THROWN);
        }
        draft.measure(e);
        if (draft.size > MOST_SIZE || draft.deep > MOST_DEEP) {
            return FULL;
        }
        long[] parts = draft.settle(e, k.trait);
        return store.addValue(new Value(store.valueCount, k, 0, parts, draft.size, draft.deep));
    }

    // ---- weights

    private int weigh(Value v) {
        if (v == null) {
            return 0;
        }
        return v.kind.isConstants ? weighConstant(v) : weighRecord(v);
    }

    private int weighRecord(Value v) {
        leaveTrace(1);
        int sum = weighLent();
        for (int k = 0; k < v.parts.length; k++) {
            if (v.edition.lanes[k] == Lanes.THING) {
                sum += weigh(store.findValue(v.parts[k]));
            } else if (v.edition.lanes[k] == Lanes.ROW) {
                Row r = store.findRow(v.parts[k]);
                sum += r == null ? 0 : r.cells.length;
            }
        }
        return sum;
    }

    private int weighLent() {
        leaveTrace(2);
        return LENT_WEIGHT;
    }

    private int weighConstant(Value v) {
        switch (v.kind.trait) {
            case 0:
                return weighFirstBody(v);
            case 1:
            case 2:
                // body 2 hides the elder MARK, but the bodies that it takes over read the elder one
                return weighSecondBody(v);
            default:
                return weighLastBody(v);
        }
    }

    private int weighFirstBody(Value v) {
        leaveTrace(3);
        return v.manieth + ELDER_MARK;
    }

    private int weighSecondBody(Value v) {
        leaveTrace(4);
        return 2 * weighFirstBody(v);
    }

    private int weighLastBody(Value v) {
        leaveTrace(5);
        return weighSecondBody(v) + YOUNGER_MARK + ELDER_MARK;
    }

    /** What LANES do with numbers. Floats are reckoned by their bits: LANGUAGE.md has no way from a float to them. */
    private static final class Lanes {
        static final int TRUTH = 0, BYTE = 1, SIGN = 2, SHORT = 3, INT = 4, LONG = 5;
        static final int FLOAT = 6, DOUBLE = 7, THING = 8, ROW = 9;

        private static final int FLOAT_FRACTION = 23, FLOAT_BIAS = 127;
        private static final int DOUBLE_FRACTION = 52, DOUBLE_BIAS = 1023;

        private Lanes() {
        }

        static boolean isNumber(int lane) {
            return lane >= TRUTH && lane <= DOUBLE;
        }

        static boolean isLane(int lane) {
            return lane >= TRUTH && lane <= ROW;
        }

        static boolean isWhole(int lane) {
            return lane >= BYTE && lane <= LONG;
        }

        static boolean isWidened(int from, int to) {
            if (from == to) {
                return true;
            }
            if (from < BYTE || from > to || to > DOUBLE || to == SIGN) {
                return false;
            }
            return from != SIGN || to != SHORT;
        }

        static long come(int lane, long v) {
            switch (lane) {
                case TRUTH:
                    return v & 1L;
                case BYTE:
                    return (byte) v;
                case SIGN:
                    return v & 0xFFFFL;
                case SHORT:
                    return (short) v;
                case INT:
                    return (int) v;
                case FLOAT:
                    return floatBits(v);
                case DOUBLE:
                    return doubleBits(v);
                default:
                    return v;
            }
        }

        static long widen(int from, int to, long v) {
            if (from == to || to <= LONG) {
                return v;
            }
            return from == FLOAT ? doubleOfFloat(v) : come(to, v);
        }

        static long tell(int lane, long v) {
            return lane >= THING && v == NOTHING ? NONE : v;
        }

        /** A number that rises with the number of a LANE, -0.0 ahead of 0.0. */
        static long rank(int lane, long v) {
            boolean isFloating = lane == FLOAT || lane == DOUBLE;
            return isFloating && v < 0 ? v ^ Long.MAX_VALUE : v;
        }

        static int hashNumber(int lane, long v) {
            if (lane == TRUTH) {
                return v != 0 ? 1231 : 1237;
            }
            if (lane == LONG || lane == DOUBLE) {
                return (int) (v ^ (v >>> 32));
            }
            return (int) v;
        }

        private static long floatBits(long v) {
            int bits = (int) roundedBits(v, FLOAT_FRACTION, FLOAT_BIAS);
            return v < 0 ? bits | Integer.MIN_VALUE : bits;
        }

        private static long doubleBits(long v) {
            long bits = roundedBits(v, DOUBLE_FRACTION, DOUBLE_BIAS);
            return v < 0 ? bits | Long.MIN_VALUE : bits;
        }

        /** The bits of a number without its sign; a carry out of the fraction raises the exponent by itself. */
        private static long roundedBits(long v, int fraction, int bias) {
            if (v == 0) {
                return 0;
            }
            long size = v < 0 ? -v : v;
            int top = topBit(size);
            long kept = top <= fraction ? size << (fraction - top) : roundedOff(size, top - fraction);
            return ((long) (top + bias) << fraction) + (kept - (1L << fraction));
        }

        private static int topBit(long size) {
            int top = 63;
            while (top > 0 && (size >>> top) == 0) {
                top--;
            }
            return top;
        }

        private static long roundedOff(long size, int dropped) {
            long kept = size >>> dropped;
            long rest = size & ((1L << dropped) - 1);
            long half = 1L << (dropped - 1);
            boolean isUp = rest > half || (rest == half && (kept & 1L) != 0);
            return isUp ? kept + 1 : kept;
        }

        /** Whole numbers alone become FLOATS, so none is too small for its full fraction. */
        private static long doubleOfFloat(long bits) {
            long sign = bits < 0 ? Long.MIN_VALUE : 0L;
            long exponent = (bits >>> FLOAT_FRACTION) & 0xFFL;
            long fraction = bits & ((1L << FLOAT_FRACTION) - 1);
            if (exponent == 0) {
                return sign;
            }
            long wide = (exponent - FLOAT_BIAS + DOUBLE_BIAS) << DOUBLE_FRACTION;
            return sign | wide | (fraction << (DOUBLE_FRACTION - FLOAT_FRACTION));
        }
    }

    private static final class Row {
        final int number;
        final int lane;
        final long[] cells;
        final boolean isKept;

        Row(int number, int lane, long[] cells, boolean isKept) {
            this.number = number;
            this.lane = lane;
            this.cells = cells;
            this.isKept = isKept;
        }

        boolean hasCell(int i) {
            return i >= 0 && i < cells.length;
        }

        boolean hasRun(int from, int n) {
            return from >= 0 && n >= 0 && from <= cells.length && n <= cells.length - from;
        }
    }

    /** The PARTS, or the CONSTANTS with their numbers as VALUES, that a KIND has at one time. */
    private static final class Edition {
        final int number;
        final int[] labels;
        final int[] lanes;
        final int[] members;
        int count;

        Edition(int number, int most) {
            this.number = number;
            labels = new int[most];
            lanes = new int[most];
            members = new int[most];
        }

        Edition(int number, Edition elder) {
            this.number = number;
            labels = elder.labels.clone();
            lanes = elder.lanes.clone();
            members = elder.members.clone();
            count = elder.count;
        }

        boolean isFull() {
            return count >= labels.length;
        }

        int find(int label) {
            for (int i = 0; i < count; i++) {
                if (labels[i] == label) {
                    return i;
                }
            }
            return NOTHING;
        }

        void add(int label, int lane) {
            if (isFull()) {
                return;
            }
            labels[count] = label;
            lanes[count] = lane;
            count++;
        }

        void drop(int i) {
            if (i < 0 || i >= count) {
                return;
            }
            for (int k = i; k < count - 1; k++) {
                exchange(k, k + 1);
            }
            count--;
        }

        void changeLane(int i, int lane) {
            if (i >= 0 && i < count) {
                lanes[i] = lane;
            }
        }

        void reverse() {
            for (int i = 0; i < count / 2; i++) {
                exchange(i, count - 1 - i);
            }
        }

        private void exchange(int i, int k) {
            int label = labels[i];
            int lane = lanes[i];
            int member = members[i];
            labels[i] = labels[k];
            lanes[i] = lanes[k];
            members[i] = members[k];
            labels[k] = label;
            lanes[k] = lane;
            members[k] = member;
        }
    }

    /** A KIND; its trait is the RULE of RECORDS, the BODY of CONSTANTS. */
    private static final class Kind {
        final int number;
        final boolean isConstants;
        final int trait;
        private final Edition[] editions;
        private int editionCount;
        boolean isStarted;
        int made;

        Kind(int number, boolean isConstants, int trait) {
            this.number = number;
            this.isConstants = isConstants;
            this.trait = trait;
            editions = new Edition[MOST_EDITIONS];
            editions[0] = new Edition(0, isConstants ? MOST_CONSTANTS : MOST_PARTS);
            editionCount = 1;
        }

        Edition newest() {
            return editions[editionCount - 1];
        }

        boolean takesLane(int lane) {
            return isConstants || Lanes.isLane(lane);
        }

        boolean hasRoomForEdition() {
            return editionCount < MOST_EDITIONS;
        }

        /** Only where hasRoomForEdition() says so. */
        Edition addEdition() {
            if (hasRoomForEdition()) {
                editions[editionCount] = new Edition(editionCount, newest());
                editionCount++;
            }
            return newest();
        }
    }

    /** A VALUE of the newest EDITION of its KIND; a CONSTANT has a LABEL and no PARTS, a RECORD the LABEL 0. */
    private static final class Value {
        final int number;
        final Kind kind;
        final Edition edition;
        final int manieth;
        final int label;
        final long[] parts;
        final int size;
        final int deep;

        Value(int number, Kind kind, int label, long[] parts, int size, int deep) {
            this.number = number;
            this.kind = kind;
            this.edition = kind.newest();
            this.manieth = kind.made;
            this.label = label;
            this.parts = parts;
            this.size = size;
            this.deep = deep;
        }

        boolean hasPart(int k) {
            return k >= 0 && k < parts.length;
        }

        long tellPart(int k) {
            return Lanes.tell(edition.lanes[k], parts[k]);
        }
    }

    /** All ROWS and VALUES by their numbers; a number of none, NOTHING too, finds null. */
    private static final class Store {
        private final Row[] rows;
        private final Value[] values;
        int rowCount;
        int valueCount;

        Store() {
            rows = new Row[MOST_ROWS];
            values = new Value[MOST_VALUES];
        }

        Row findRow(long number) {
            return number >= 0 && number < rowCount ? rows[(int) number] : null;
        }

        Value findValue(long number) {
            return number >= 0 && number < valueCount ? values[(int) number] : null;
        }

        boolean hasRoomForRows(int n) {
            return n <= MOST_ROWS - rowCount;
        }

        boolean hasRoomForValues(int n) {
            return n <= MOST_VALUES - valueCount;
        }

        /** A caller has asked for room, and n is 0 or above. */
        Row addRow(int lane, int n, boolean isKept) {
            Row r = new Row(rowCount, lane, new long[n < 0 ? 0 : n], isKept);
            if (lane == Lanes.THING) {
                for (int i = 0; i < r.cells.length; i++) {
                    r.cells[i] = NOTHING;
                }
            }
            if (rowCount < MOST_ROWS) {
                rows[rowCount] = r;
                rowCount++;
            }
            return r;
        }

        Row addTwin(Row like, boolean isKept) {
            Row r = addRow(like.lane, like.cells.length, isKept);
            System.arraycopy(like.cells, 0, r.cells, 0, like.cells.length);
            return r;
        }

        /** A caller has asked for room; v bears the next number. */
        int addValue(Value v) {
            if (valueCount < MOST_VALUES) {
                values[valueCount] = v;
                valueCount++;
                v.kind.made++;
            }
            return v.number;
        }
    }

    /** THE TRAY: what lies in a place, with its LANE (a VALUE's is THING); the LANE NOTHING: nothing does. */
    private static final class Tray {
        private final int[] lanes;
        private final long[] things;

        Tray() {
            lanes = new int[MOST_PARTS];
            things = new long[MOST_PARTS];
            for (int k = 0; k < MOST_PARTS; k++) {
                lanes[k] = NOTHING;
            }
        }

        void place(int k, int lane, long thing) {
            lanes[k] = lane;
            things[k] = thing;
        }

        void empty(int k) {
            lanes[k] = NOTHING;
        }

        void emptyAll() {
            for (int k = 0; k < MOST_PARTS; k++) {
                lanes[k] = NOTHING;
            }
        }

        int faultFor(int k, int lane) {
            if (lanes[k] == NOTHING) {
                return Lanes.isNumber(lane) ? NULL : FINE;
            }
            return Lanes.isWidened(lanes[k], lane) ? FINE : CAST;
        }

        long widenedTo(int k, int lane) {
            return lanes[k] == NOTHING ? NOTHING : Lanes.widen(lanes[k], lane, things[k]);
        }
    }

    /** The PARTS of a VALUE to be: they are looked at here, so that a refusal leaves no trace elsewhere. */
    private static final class Draft {
        private final Store store;
        private final long[] parts;
        int size;
        int deep;

        Draft(Store store) {
            this.store = store;
            parts = new long[MOST_PARTS];
        }

        int takeTray(Tray tray, Edition e) {
            for (int k = 0; k < e.count; k++) {
                int fault = tray.faultFor(k, e.lanes[k]);
                if (fault != FINE) {
                    return fault;
                }
                parts[k] = tray.widenedTo(k, e.lanes[k]);
            }
            return FINE;
        }

        int takeValue(Value v, Edition e) {
            for (int k = 0; k < e.count; k++) {
                int lane = e.lanes[k];
                int old = v.edition.find(e.labels[k]);
                if (old == NOTHING) {
                    parts[k] = Lanes.isNumber(lane) ? 0 : NOTHING;
                } else if (Lanes.isWidened(v.edition.lanes[old], lane)) {
                    parts[k] = Lanes.widen(v.edition.lanes[old], lane, v.parts[old]);
                } else {
                    return CAST;
                }
            }
            return FINE;
        }

        int countTwins(Edition e, int rule) {
            int sum = 0;
            for (int k = 0; k < e.count; k++) {
                if (needsTwin(rowOf(e, k), rule)) {
                    sum++;
                }
            }
            return sum;
        }

        boolean obeys(Edition e, int rule) {
            switch (rule) {
                case RULE_RISING:
                    return !isFalling(e);
                case RULE_EXCHANGED:
                    if (isFalling(e)) {
                        exchange(e);
                    }
                    return true;
                case RULE_WHOLE:
                    return hasEveryPart(e);
                default:
                    return true;
            }
        }

        void measure(Edition e) {
            size = 1;
            deep = 1;
            for (int k = 0; k < e.count; k++) {
                if (e.lanes[k] == Lanes.THING) {
                    measureThing(parts[k]);
                }
                Row r = rowOf(e, k);
                if (r != null && r.lane == Lanes.THING) {
                    for (int i = 0; i < r.cells.length; i++) {
                        measureThing(r.cells[i]);
                    }
                }
            }
        }

        /** The PARTS as they come to be, with their twins made. */
        long[] settle(Edition e, int rule) {
            long[] settled = new long[e.count];
            for (int k = 0; k < e.count; k++) {
                Row r = rowOf(e, k);
                settled[k] = needsTwin(r, rule) ? store.addTwin(r, r.lane == Lanes.THING).number : parts[k];
            }
            return settled;
        }

        private Row rowOf(Edition e, int k) {
            return e.lanes[k] == Lanes.ROW ? store.findRow(parts[k]) : null;
        }

        private static boolean needsTwin(Row r, int rule) {
            return r != null && !r.isKept && (r.lane == Lanes.THING || rule == RULE_TWINS);
        }

        private boolean isFalling(Edition e) {
            boolean hasBoth = e.count >= 2 && Lanes.isWhole(e.lanes[0]) && Lanes.isWhole(e.lanes[1]);
            return hasBoth && parts[0] > parts[1];
        }

        private void exchange(Edition e) {
            long first = parts[0];
            parts[0] = Lanes.come(e.lanes[0], parts[1]);
            parts[1] = Lanes.come(e.lanes[1], first);
        }

        private boolean hasEveryPart(Edition e) {
            for (int k = 0; k < e.count; k++) {
                if (!Lanes.isNumber(e.lanes[k]) && parts[k] == NOTHING) {
                    return false;
                }
            }
            return true;
        }

        private void measureThing(long number) {
            Value v = store.findValue(number);
            if (v != null) {
                size += v.size;
                deep = Math.max(deep, v.deep + 1);
            }
        }
    }

    /** ORDER and HASH; they go as deep as VALUES are DEEP, MOST_DEEP at most. */
    private static final class Comparer {
        private final Store store;

        Comparer(Store store) {
            this.store = store;
        }

        int compareValues(Value a, Value b) {
            if (a == null || b == null) {
                return nothingFirst(a != null, b != null);
            }
            int byKind = lesserFirst(a.kind.number, b.kind.number);
            if (byKind != 0) {
                return byKind;
            }
            int byEdition = lesserFirst(a.edition.number, b.edition.number);
            if (byEdition != 0) {
                return byEdition;
            }
            return a.kind.isConstants ? lesserFirst(a.manieth, b.manieth) : compareParts(a, b);
        }

        int hashValue(Value v) {
            if (v == null) {
                return 0;
            }
            if (v.kind.isConstants) {
                return 7 * v.kind.number + v.manieth;
            }
            int sum = v.kind.number;
            for (int k = 0; k < v.parts.length; k++) {
                sum = 31 * sum + hashAny(v.edition.lanes[k], v.parts[k]);
            }
            return sum;
        }

        /** Of two VALUES of one EDITION: their PARTS are as many and of the same LANES. */
        private int compareParts(Value a, Value b) {
            for (int k = 0; k < a.parts.length && k < b.parts.length; k++) {
                int byPart = compareAny(a.edition.lanes[k], a.parts[k], b.parts[k]);
                if (byPart != 0) {
                    return byPart;
                }
            }
            return 0;
        }

        private int compareAny(int lane, long a, long b) {
            if (lane == Lanes.THING) {
                return compareValues(store.findValue(a), store.findValue(b));
            }
            if (lane == Lanes.ROW) {
                return compareRows(store.findRow(a), store.findRow(b));
            }
            return lesserFirst(Lanes.rank(lane, a), Lanes.rank(lane, b));
        }

        private int compareRows(Row a, Row b) {
            if (a == null || b == null) {
                return nothingFirst(a != null, b != null);
            }
            int byLane = lesserFirst(a.lane, b.lane);
            if (byLane != 0) {
                return byLane;
            }
            for (int i = 0; i < a.cells.length && i < b.cells.length; i++) {
                int byCell = compareAny(a.lane, a.cells[i], b.cells[i]);
                if (byCell != 0) {
                    return byCell;
                }
            }
            return lesserFirst(a.cells.length, b.cells.length);
        }

        private int hashAny(int lane, long thing) {
            if (lane == Lanes.THING) {
                return hashValue(store.findValue(thing));
            }
            if (lane == Lanes.ROW) {
                return hashRow(store.findRow(thing));
            }
            return Lanes.hashNumber(lane, thing);
        }

        private int hashRow(Row r) {
            if (r == null) {
                return 0;
            }
            int sum = 1;
            for (int i = 0; i < r.cells.length; i++) {
                sum = 31 * sum + hashAny(r.lane, r.cells[i]);
            }
            return sum;
        }

        private static int lesserFirst(long a, long b) {
            if (a == b) {
                return 0;
            }
            return a < b ? -1 : 1;
        }

        private static int nothingFirst(boolean isFirstThere, boolean isSecondThere) {
            return oneIf(isFirstThere) - oneIf(isSecondThere);
        }
    }

    /** Bytes up to MOST_BYTES; what goes beyond is dropped, and isOver tells of it. */
    private static final class Text {
        final byte[] bytes;
        private final char[] digits;
        int count;
        boolean isOver;

        Text() {
            bytes = new byte[MOST_BYTES];
            digits = new char[MOST_DIGITS];
        }

        void clear() {
            count = 0;
            isOver = false;
        }

        void addSign(char sign) {
            if (count < MOST_BYTES) {
                bytes[count] = (byte) sign;
                count++;
            } else {
                isOver = true;
            }
        }

        void addNumber(long v) {
            if (v < 0) {
                addSign('-');
            }
            // the least long has no opposite: digits are taken from numbers below 0
            long rest = v < 0 ? v : -v;
            int n = 0;
            do {
                digits[n] = (char) ('0' - rest % 10);
                rest /= 10;
                n++;
            } while (rest != 0 && n < MOST_DIGITS);
            for (int i = n - 1; i >= 0; i--) {
                addSign(digits[i]);
            }
        }
    }

    /** Writes what is SHOWN, into a second text first: one that is too long leaves the first as it was. */
    private static final class Scribe {
        private final Store store;
        Text shown;
        private Text next;

        Scribe(Store store) {
            this.store = store;
            shown = new Text();
            next = new Text();
        }

        boolean writes(Value v) {
            next.clear();
            writeValue(v);
            if (next.isOver) {
                return false;
            }
            Text old = shown;
            shown = next;
            next = old;
            return true;
        }

        private void writeValue(Value v) {
            if (v == null) {
                next.addSign('!');
            } else if (v.kind.isConstants) {
                next.addSign('#');
                next.addNumber(v.label);
            } else {
                writeRecord(v);
            }
        }

        private void writeRecord(Value v) {
            next.addNumber(v.kind.number);
            next.addSign('(');
            for (int k = 0; k < v.parts.length && !next.isOver; k++) {
                if (k > 0) {
                    next.addSign(',');
                }
                next.addNumber(v.edition.labels[k]);
                next.addSign('=');
                writeAny(v.edition.lanes[k], v.parts[k]);
            }
            next.addSign(')');
        }

        private void writeAny(int lane, long thing) {
            switch (lane) {
                case Lanes.TRUTH:
                    next.addSign(thing != 0 ? 't' : 'f');
                    break;
                case Lanes.THING:
                    writeValue(store.findValue(thing));
                    break;
                case Lanes.ROW:
                    writeRow(store.findRow(thing));
                    break;
                default:
                    next.addNumber(thing);
                    break;
            }
        }

        private void writeRow(Row r) {
            if (r == null) {
                next.addSign('!');
                return;
            }
            next.addSign('[');
            for (int i = 0; i < r.cells.length && !next.isOver; i++) {
                if (i > 0) {
                    next.addSign(' ');
                }
                writeAny(r.lane, r.cells[i]);
            }
            next.addSign(']');
        }
    }
}
