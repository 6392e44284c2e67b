/** The first lines of the Terms: of several refusals the first one, FAULTS behind them, and none changes anything. */
public final class RefusalsTest {
    private static final int UNKNOWN = RecordBridge.UNKNOWN, OUTSIDE = RecordBridge.OUTSIDE, NO = RecordBridge.NO;
    private static final int FULL = RecordBridge.FULL, NONE = RecordBridge.NONE;
    private static final long LOST = RecordBridge.LOST;
    private static final int NULL = -11, INDEX = -12, CAST = -13, SIZE = -14, THROWN = -15;
    private static final int LEAST = Integer.MIN_VALUE, GREATEST = Integer.MAX_VALUE;
    /** Numbers that are of none in the small world, which has 3 of each thing but KINDS. */
    private static final int[] OF_NONE = {-2, 4, 60, 200, LEAST, GREATEST};

    public static void main(String[] args) {
        unknownAheadOfAll();
        outsideAheadOfTheRest();
        noAheadOfTheRest();
        faultsInTheOrderTold();
        refusalsOfRowsChangeNothing();
        refusalsOfKindsChangeNothing();
        refusalsOfValuesChangeNothing();
        faultsChangeFaultAlone();
        fullChangesNothing();
        refusalsAreNoFaults();
        Check.end();
    }

    /**
     * ROWS 0 (THINGS), 1 (INTS), 2 (KEPT); KINDS 0 (CONSTANTS), 1 (RECORD, its newest EDITION 1), 2 and 3 (RECORD,
     * CONSTANTS, not STARTED); VALUES 0 and 1 (CONSTANTS), 2 (RECORD); one FAMILY; something SHOWN; a tray that RULE 1
     * of KIND 1 is against.
     */
    private static RecordBridge world() {
        RecordBridge x = new RecordBridge();
        x.row(8, 2);
        x.row(4, 2);
        x.put(1, 0, 4, 7);
        x.constants(3);
        x.more(0, 10, 0);
        x.more(0, 20, 0);
        x.record(1);
        for (int k = 0; k < 4; k++) {
            x.more(1, k + 1, new int[] {4, 5, 8, 9}[k]);
        }
        x.lay(0, 0, x.named(0, 20));
        tray(x, 1, 2);
        x.hand(3, 0, true);
        x.make(1);
        x.family(2, true);
        x.record(3);
        x.more(2, 5, 8);
        x.constants(0);
        x.more(3, 7, 0);
        x.edition(1, 2, 4, 8);
        x.show(1);
        tray(x, 5, 4);
        x.hand(3, 2, false);
        return x;
    }

    private static void tray(RecordBridge x, long first, long second) {
        x.give(0, 4, first);
        x.give(1, 5, second);
        x.hand(2, 0, false);
    }

    /** All that can be asked of the small world, THE TRAY at last, by a new KIND that takes it as it lies there. */
    private static String all(RecordBridge x) {
        StringBuilder text = new StringBuilder();
        for (int what = 0; what < 5; what++) {
            text.append(x.told(what)).append(what < 4 ? ' ' : ';');
        }
        for (int row = 0; row < 4; row++) {
            text.append(x.length(row, 0)).append(' ').append(x.length(row, 1)).append(' ').append(x.length(row, 2));
            for (int i = 0; i < 2; i++) {
                text.append(' ').append(x.length(row, 0) == 8 ? x.at(row, i) : x.get(row, i, 4));
            }
            text.append(';');
        }
        for (int kind = 0; kind < 5; kind++) {
            for (int what = 0; what < 5; what++) {
                text.append(x.info(kind, what)).append(' ');
            }
        }
        for (int value = 0; value < 4; value++) {
            for (int what = 0; what < 6; what++) {
                text.append(x.of(value, what)).append(' ');
            }
            text.append(x.match(0, value)).append(' ').append(x.hash(value)).append(';');
        }
        for (int i = 0; i < 4; i++) {
            text.append(x.byteAt(i)).append(' ');
        }
        return text.append(x.trace()).append(' ').append(lying(x)).toString();
    }

    private static String lying(RecordBridge x) {
        int kind = x.record(0);
        for (int k = 0; k < 6; k++) {
            x.more(kind, k + 1, new int[] {4, 5, 8, 8, 8, 9}[k]);
        }
        int value = x.make(kind);
        StringBuilder text = new StringBuilder().append(value);
        for (int k = 0; k < 6; k++) {
            text.append(',').append(x.part(value, k));
        }
        return text.toString();
    }

    private static void isAsBefore(String what, RecordBridge x) {
        String got = all(x);
        String want = all(world());
        Check.isTrue(what + ": " + got + ", due is " + want, got.equals(want));
    }

    // ---- the first one

    private static void unknownAheadOfAll() {
        RecordBridge x = world();
        for (int n : OF_NONE) {
            Check.due("put, UNKNOWN ahead of OUTSIDE", x.put(n, -1, 8, 0), UNKNOWN);
            Check.due("get, UNKNOWN", x.get(n, 9, 9), LOST);
            Check.due("lay, UNKNOWN ahead of INDEX", x.lay(n, 9, 0), UNKNOWN);
            Check.due("lay, UNKNOWN ahead of NO", x.lay(2, 9, n), UNKNOWN);
            Check.due("lay, UNKNOWN ahead of CAST", x.lay(1, 9, n), UNKNOWN);
            Check.due("at, UNKNOWN ahead of INDEX", x.at(n, -1), UNKNOWN);
            Check.due("length, UNKNOWN ahead of OUTSIDE", x.length(n, 3), UNKNOWN);
            Check.due("copy, UNKNOWN ahead of NO", x.copy(n, -1, 2, 0, 0), UNKNOWN);
            Check.due("copy, UNKNOWN ahead of INDEX", x.copy(1, -1, n, -1, -1), UNKNOWN);
            Check.due("twin, UNKNOWN", x.twin(n), UNKNOWN);
            Check.due("more, UNKNOWN ahead of OUTSIDE", x.more(n, 0, 10), UNKNOWN);
            Check.due("edition, UNKNOWN ahead of OUTSIDE", x.edition(n, 4, 0, 10), UNKNOWN);
            Check.due("info, UNKNOWN ahead of OUTSIDE", x.info(n, 5), UNKNOWN);
            Check.due("hand, UNKNOWN ahead of OUTSIDE", x.hand(6, n, false), UNKNOWN);
            Check.due("hand, UNKNOWN ahead of OUTSIDE", x.hand(-1, n, true), UNKNOWN);
            Check.due("make, UNKNOWN", x.make(n), UNKNOWN);
            Check.due("named, UNKNOWN", x.named(n, 10), UNKNOWN);
            Check.due("part, UNKNOWN", x.part(n, -1), LOST);
            Check.due("accessor, UNKNOWN", x.accessor(n, 1), LOST);
            Check.due("of, UNKNOWN ahead of OUTSIDE", x.of(n, 6), UNKNOWN);
            Check.due("array, UNKNOWN ahead of INDEX", x.array(n, -1, false), UNKNOWN);
            Check.due("match, UNKNOWN", x.match(n, 0), UNKNOWN);
            Check.due("match, UNKNOWN ahead of NO", x.match(0, n), UNKNOWN);
            Check.due("equal, UNKNOWN", x.equal(n, 0), UNKNOWN);
            Check.due("equal, UNKNOWN", x.equal(0, n), UNKNOWN);
            Check.due("order, UNKNOWN", x.order(n, 0), UNKNOWN);
            Check.due("order, UNKNOWN", x.order(0, n), UNKNOWN);
            Check.due("hash, UNKNOWN", x.hash(n), LOST);
            Check.due("weight, UNKNOWN", x.weight(n), UNKNOWN);
            Check.due("show, UNKNOWN", x.show(n), UNKNOWN);
            Check.due("carry, UNKNOWN", x.carry(n), UNKNOWN);
        }
        Check.due("UNKNOWN is no FAULT", x.told(5), 0);
        isAsBefore("UNKNOWN changes nothing", x);
    }

    private static void outsideAheadOfTheRest() {
        RecordBridge x = world();
        Check.due("put, OUTSIDE ahead of CAST", x.put(0, 9, 8, 0), OUTSIDE);
        Check.due("put, OUTSIDE ahead of INDEX", x.put(1, 9, -1, 0), OUTSIDE);
        Check.due("get, OUTSIDE ahead of CAST", x.get(0, 9, 8), LOST);
        Check.due("get, OUTSIDE ahead of INDEX", x.get(1, 9, -1), LOST);
        Check.due("get, OUTSIDE is no FAULT", x.fault(), 0);
        Check.due("more, a LABEL ahead of STARTED", x.more(1, 0, 4), OUTSIDE);
        Check.due("more, a LANE ahead of STARTED", x.more(1, 50, 10), OUTSIDE);
        Check.due("more, a LANE ahead of a LABEL that it has", x.more(2, 5, -1), OUTSIDE);
        Check.due("edition, what ahead of not STARTED", x.edition(2, 4, 5, 4), OUTSIDE);
        Check.due("edition, a LABEL ahead of not STARTED", x.edition(2, 1, 100, 4), OUTSIDE);
        Check.due("edition, a LANE ahead of not STARTED", x.edition(2, 2, 5, 10), OUTSIDE);
        Check.due("edition, a LANE ahead of a LABEL that it has", x.edition(1, 0, 1, 10), OUTSIDE);
        Check.due("edition, a LANE ahead of one that it has not", x.edition(1, 2, 50, -1), OUTSIDE);
        Check.due("edition, a LABEL ahead of 2 of CONSTANTS", x.edition(0, 2, 0, 4), OUTSIDE);
        isAsBefore("OUTSIDE changes nothing", x);
    }

    private static void noAheadOfTheRest() {
        RecordBridge x = world();
        Check.due("lay, KEPT ahead of INDEX", x.lay(2, -1, -1), NO);
        Check.due("copy, unlike LANES ahead of INDEX", x.copy(0, 9, 1, 9, -1), NO);
        Check.due("copy, KEPT ahead of INDEX", x.copy(0, 9, 2, 9, -1), NO);
        Check.due("copy, KEPT onto itself", x.copy(2, 0, 2, 0, 0), NO);
        Check.due("copy, unlike LANES, none", x.copy(1, 0, 0, 0, 0), NO);
        Check.due("part, a CONSTANT ahead of INDEX", x.part(0, -1), LOST);
        Check.due("array, a CONSTANT ahead of INDEX", x.array(0, 9, true), NO);
        Check.due("NO is no FAULT", x.told(5), 0);
        isAsBefore("NO changes nothing", x);
    }

    private static void faultsInTheOrderTold() {
        RecordBridge x = world();
        Check.due("put, THINGS ahead of INDEX", x.put(0, 2, 4, 0), CAST);
        Check.due("put, INDEX ahead of WIDENED", x.put(1, 2, 7, 0), INDEX);
        Check.due("put, WIDENED", x.put(1, 1, 7, 0), CAST);
        Check.due("get, THINGS ahead of INDEX", x.get(0, 2, 4), LOST);
        Check.due("get, THINGS: CAST", x.fault(), 3);
        Check.due("get, INDEX ahead of WIDENED", x.get(1, 2, 1), LOST);
        Check.due("get, INDEX", x.fault(), 2);
        Check.due("lay, another LANE ahead of INDEX", x.lay(1, 2, -1), CAST);
        Check.due("at, another LANE ahead of INDEX", x.at(1, 2), CAST);
        Check.due("array, INDEX", x.array(2, 4, true), INDEX);
        Check.due("array, another LANE", x.array(2, 2, true), CAST);
        isAsBefore("FAULTS change nothing", x);
    }

    // ---- nothing changes

    private static void refusalsOfRowsChangeNothing() {
        RecordBridge x = world();
        Check.due("row", x.row(-1, 1), OUTSIDE);
        Check.due("row", x.row(9, 1), OUTSIDE);
        Check.due("row", x.row(LEAST, 1), OUTSIDE);
        Check.due("row", x.row(GREATEST, 1), OUTSIDE);
        Check.due("row", x.row(0, 21), OUTSIDE);
        Check.due("row", x.row(0, GREATEST), OUTSIDE);
        Check.due("row", x.row(0, -1), SIZE);
        Check.due("row", x.row(8, LEAST), SIZE);
        for (int i : new int[] {-1, 2, 20, LEAST, GREATEST}) {
            Check.due("put", x.put(1, i, 4, 9), INDEX);
            Check.due("get", x.get(1, i, 4), LOST);
            Check.due("lay", x.lay(0, i, 1), INDEX);
            Check.due("at", x.at(0, i), INDEX);
            Check.due("copy", x.copy(1, i, 1, 0, 1), INDEX);
            Check.due("copy", x.copy(1, 0, 1, i, 1), INDEX);
        }
        for (int n : new int[] {-1, 3, LEAST, GREATEST}) {
            Check.due("copy", x.copy(1, 0, 1, 0, n), INDEX);
            Check.due("copy", x.copy(1, 1, 1, 1, n), INDEX);
        }
        for (int what : new int[] {-1, 3, LEAST, GREATEST}) {
            Check.due("length", x.length(1, what), OUTSIDE);
        }
        isAsBefore("refusals of ROWS change nothing", x);
    }

    private static void refusalsOfKindsChangeNothing() {
        RecordBridge x = world();
        for (int n : new int[] {-1, 5, LEAST, GREATEST}) {
            Check.due("record", x.record(n), OUTSIDE);
            Check.due("info", x.info(1, n), OUTSIDE);
            Check.due("edition", x.edition(1, n, 50, 4), OUTSIDE);
        }
        for (int n : new int[] {-1, 4, LEAST, GREATEST}) {
            Check.due("constants", x.constants(n), OUTSIDE);
        }
        for (int word : new int[] {0, -1, 100, LEAST, GREATEST}) {
            Check.due("more", x.more(2, word, 4), OUTSIDE);
            Check.due("more of CONSTANTS", x.more(3, word, 4), OUTSIDE);
            for (int what = 0; what < 3; what++) {
                Check.due("edition", x.edition(1, what, word, 4), OUTSIDE);
                Check.due("edition of CONSTANTS", x.edition(0, what, word, 4), OUTSIDE);
            }
        }
        for (int lane : new int[] {-1, 10, LEAST, GREATEST}) {
            Check.due("more", x.more(2, 50, lane), OUTSIDE);
            Check.due("edition", x.edition(1, 0, 50, lane), OUTSIDE);
            Check.due("edition", x.edition(1, 2, 1, lane), OUTSIDE);
        }
        Check.due("more, has it", x.more(2, 5, 4), NO);
        Check.due("more, has STARTED", x.more(1, 50, 4), NO);
        Check.due("more, has STARTED", x.more(0, 50, 4), NO);
        for (int what = 0; what < 4; what++) {
            Check.due("edition, not STARTED", x.edition(2, what, what == 0 ? 50 : 5, 4), NO);
            Check.due("edition, not STARTED", x.edition(3, what, what == 0 ? 50 : 7, 4), NO);
        }
        Check.due("edition, has it", x.edition(0, 0, 10, 0), NO);
        Check.due("edition, has it not", x.edition(0, 1, 50, 0), NO);
        Check.due("edition, 2 of CONSTANTS", x.edition(0, 2, 10, 4), NO);
        for (int bits : new int[] {16, 17, 1 << 30, LEAST, -1}) {
            Check.due("family", x.family(bits, true), OUTSIDE);
        }
        isAsBefore("refusals of KINDS change nothing", x);
    }

    private static void refusalsOfValuesChangeNothing() {
        RecordBridge x = world();
        for (int k : new int[] {-1, 6, LEAST, GREATEST}) {
            Check.due("give", x.give(k, 4, 9), OUTSIDE);
            Check.due("hand", x.hand(k, 0, true), OUTSIDE);
            Check.due("hand", x.hand(k, -1, false), OUTSIDE);
        }
        for (int lane : new int[] {-1, 8, 9, LEAST, GREATEST}) {
            Check.due("give", x.give(0, lane, 9), OUTSIDE);
        }
        Check.due("hand, a VALUE's number is no ROW's", x.hand(0, 3, true), UNKNOWN);
        Check.due("make of CONSTANTS", x.make(0), NO);
        Check.due("make of CONSTANTS that have not STARTED", x.make(3), NO);
        for (int word : new int[] {11, 0, -1, LEAST, GREATEST}) {
            Check.due("named, no such LABEL", x.named(0, word), NO);
            Check.due("named, no such LABEL", x.named(3, word), NO);
            Check.due("accessor, no such PART", x.accessor(2, word), LOST);
        }
        Check.due("named of RECORDS", x.named(1, 1), NO);
        Check.due("named of RECORDS that have not STARTED", x.named(2, 5), NO);
        for (int what : new int[] {-1, 6, LEAST, GREATEST}) {
            Check.due("of", x.of(2, what), OUTSIDE);
            Check.due("told", x.told(what), OUTSIDE);
        }
        Check.due("match", x.match(0, 0), NO);
        Check.due("byteAt", x.byteAt(LEAST), NONE);
        Check.due("byteAt", x.byteAt(GREATEST), NONE);
        isAsBefore("refusals of VALUES change nothing", x);
    }

    private static void faultsChangeFaultAlone() {
        RecordBridge x = world();
        Check.due("make, THROWN", x.make(1), THROWN);
        Check.due("fault", x.fault(), 5);
        Check.due("carry, CAST", x.carry(2), CAST);
        Check.due("fault", x.fault(), 3);
        Check.due("part, INDEX", x.part(2, 4), LOST);
        Check.due("fault", x.fault(), 2);
        Check.due("row, SIZE", x.row(0, -1), SIZE);
        Check.due("fault", x.fault(), 4);
        for (int k : new int[] {-1, 4, 6, LEAST, GREATEST}) {
            Check.due("part, INDEX", x.part(2, k), LOST);
            Check.due("array, INDEX", x.array(2, k, false), INDEX);
        }
        Check.due("FAULTS", x.told(5), 14);
        Check.due("the latest stays", x.fault(), 2);
        isAsBefore("FAULTS change fault() alone", x);
        x = world();
        x.hand(1, -1, false);
        Check.due("make, NULL", x.make(1), NULL);
        Check.due("fault", x.fault(), 1);
        x.give(1, 5, 4);
        isAsBefore("NULL changes nothing", x);
    }

    /** 60 ROWS, 16 KINDS, 8 FAMILIES, 200 VALUES: what needs room for one more is refused, the rest is not. */
    private static void fullChangesNothing() {
        RecordBridge x = new RecordBridge();
        x.record(0);
        x.more(0, 1, 9);
        x.row(8, 1);
        x.hand(0, 0, true);
        x.make(0);
        x.constants(0);
        x.more(1, 1, 0);
        for (int i = 2; i < 60; i++) {
            Check.due("60 ROWS", x.row(4, 1), i);
        }
        for (int i = 2; i < 16; i++) {
            Check.due("16 KINDS", x.record(0), i);
        }
        for (int i = 0; i < 8; i++) {
            Check.due("8 FAMILIES", x.family(1, true), i);
        }
        for (int i = 1; i < 200; i++) {
            Check.due("200 VALUES", x.make(2), i);
        }
        int trace = x.trace();
        Check.due("row", x.row(0, 0), FULL);
        Check.due("twin", x.twin(0), FULL);
        Check.due("record", x.record(0), FULL);
        Check.due("constants", x.constants(0), FULL);
        Check.due("constants, OUTSIDE ahead", x.constants(4), OUTSIDE);
        Check.due("row, OUTSIDE ahead", x.row(9, 0), OUTSIDE);
        Check.due("family", x.family(0, false), FULL);
        Check.due("make", x.make(3), FULL);
        Check.due("named", x.named(1, 1), FULL);
        Check.due("named, NO ahead", x.named(1, 2), NO);
        Check.due("array", x.array(0, 0, false), FULL);
        Check.due("carry", x.carry(0), FULL);
        Check.due("nothing has STARTED by it", x.info(1, 3) + x.info(3, 3), 0);
        Check.due("ROWS", x.told(0), 60);
        Check.due("KINDS", x.told(1), 16);
        Check.due("FAMILIES", x.told(2), 8);
        Check.due("VALUES", x.told(3), 200);
        Check.due("STARTED", x.told(4), 2);
        Check.due("FULL is no FAULT", x.told(5), 0);
        Check.due("trace", x.trace(), trace);
        Check.due("array, shared", x.array(0, 0, true), 1);
        Check.due("the last VALUE", x.of(199, 0), 2);
        Check.due("the last ROW", x.length(59, 0), 4);
        Check.due("the last FAMILY", x.match(7, 0), 0);
        Check.due("the last KIND", x.info(15, 0), 0);
        unknownBehindTheLast(x);
    }

    private static void unknownBehindTheLast(RecordBridge x) {
        Check.due("60 is no ROW", x.length(60, 0), UNKNOWN);
        Check.due("60 is no ROW", x.twin(60), UNKNOWN);
        Check.due("60 is no ROW", x.hand(0, 60, true), UNKNOWN);
        Check.due("16 is no KIND", x.info(16, 0), UNKNOWN);
        Check.due("16 is no KIND", x.make(16), UNKNOWN);
        Check.due("8 is no FAMILY", x.match(8, 0), UNKNOWN);
        Check.due("200 is no VALUE", x.match(0, 200), UNKNOWN);
        Check.due("200 is no VALUE", x.of(200, 0), UNKNOWN);
        Check.due("200 is no VALUE", x.hand(0, 200, false), UNKNOWN);
        Check.due("200 is no VALUE", x.lay(0, 0, 200), UNKNOWN);
        Check.due("200 is no VALUE", x.carry(200), UNKNOWN);
        Check.due("200 is no VALUE", x.hash(200), LOST);
    }

    /** What is no FAULT leaves fault() and the count of FAULTS as they were. */
    private static void refusalsAreNoFaults() {
        RecordBridge x = world();
        x.row(0, -1);
        x.put(9, 0, 0, 0);
        x.get(9, 0, 0);
        x.get(1, 0, 8);
        x.part(0, 0);
        x.accessor(2, 99);
        x.make(0);
        x.match(0, 0);
        x.told(9);
        x.hash(9);
        Check.due("the FAULT of the latest call that had one", x.fault(), 4);
        Check.due("FAULTS", x.told(5), 1);
    }
}
