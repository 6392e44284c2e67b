/** Promises 20 to 34. */
public final class ValuesTest {
    private static final int UNKNOWN = RecordBridge.UNKNOWN, OUTSIDE = RecordBridge.OUTSIDE, NO = RecordBridge.NO;
    private static final int FULL = RecordBridge.FULL, NONE = RecordBridge.NONE;
    private static final long LOST = RecordBridge.LOST;
    private static final int NULL = -11, INDEX = -12, CAST = -13, THROWN = -15;

    public static void main(String[] args) {
        promises20And21();
        promise22();
        promise23();
        promise24();
        promises25And26OfNumbers();
        promises25And26OfRows();
        promises25And26OfEditions();
        promise27();
        promise28();
        promises29And30();
        promise29Full();
        promise31();
        promise31Faults();
        promise31Rules();
        promise31Full();
        promise31Constants();
        promises32To34();
        Check.end();
    }

    private static int makeNumber(RecordBridge x, int kind, int lane, long v) {
        x.give(0, lane, v);
        return x.make(kind);
    }

    private static int makeRow(RecordBridge x, int kind, int row) {
        x.hand(0, row, true);
        return x.make(kind);
    }

    private static void promises20And21() {
        RecordBridge x = new RecordBridge();
        int kind = Kinds.addKind(x, 0, 0, 6, 7, 8, 9);
        Kinds.addConstants(x, 0, 4);
        x.row(4, 0);
        x.give(0, 0, 3);
        x.give(1, 4, -16777217);
        x.give(2, 6, 16777217);
        x.hand(3, x.named(1, 4), false);
        x.hand(4, 0, true);
        int v = x.make(kind);
        Check.due("20 truth", x.part(v, 0), 1);
        Check.due("20 float", x.part(v, 1), Float.floatToIntBits(-16777216f));
        Check.due("20 double of a float", x.part(v, 2), Double.doubleToLongBits(16777216.0));
        Check.due("20 thing", x.part(v, 3), 0);
        Check.due("20 row", x.part(v, 4), 0);
        Check.due("21 by its word", x.accessor(v, 1), 1);
        Check.due("21 by its word", x.accessor(v, 5), 0);
        Check.due("20 unknown", x.part(2, 0), LOST);
        Check.due("20 a constant", x.part(0, 0), LOST);
        Check.due("21 unknown", x.accessor(-1, 1), LOST);
        Check.due("21 a constant", x.accessor(0, 4), LOST);
        Check.due("21 no such part", x.accessor(v, 6), LOST);
        Check.due("21 word 0", x.accessor(v, 0), LOST);
        Check.due("20, 21 no faults", x.told(5), 0);
        Check.due("20 index", x.part(v, 5), LOST);
        Check.due("20 fault", x.fault(), 2);
        Check.due("20 index -1", x.part(v, -1), LOST);
        Check.due("20 faults", x.told(5), 2);
        x.edition(kind, 1, 1, 0);
        Check.due("21 of its own edition", x.accessor(v, 1), 1);
        Check.due("20 of its own edition", x.part(v, 4), 0);
    }

    private static void promise22() {
        RecordBridge x = new RecordBridge();
        int kind = Kinds.addKind(x, 0, 8);
        int names = Kinds.addConstants(x, 0, 4, 9);
        x.hand(0, x.named(names, 9), false);
        int v = x.make(kind);
        Check.due("22 kind", x.of(v, 0), kind);
        Check.due("22 edition", x.of(v, 1), 0);
        Check.due("22 size", x.of(v, 2), 2);
        Check.due("22 manieth", x.of(v, 3), 0);
        Check.due("22 label of a record", x.of(v, 4), 0);
        Check.due("22 deep", x.of(v, 5), 2);
        Check.due("22 manieth", x.of(1, 3), 1);
        Check.due("22 label", x.of(1, 4), 9);
        Check.due("22 outside", x.of(v, 6), OUTSIDE);
        Check.due("22 outside", x.of(v, -1), OUTSIDE);
        Check.due("22 unknown", x.of(v + 1, 6), UNKNOWN);
    }

    private static void promise23() {
        RecordBridge x = new RecordBridge();
        int kind = Kinds.addKind(x, 0, 9, 8);
        Kinds.addConstants(x, 0, 4);
        x.row(5, 2);
        x.put(0, 1, 5, 8);
        int v = makeRow(x, kind, 0);
        int empty = x.make(kind);
        int name = x.named(1, 4);
        Check.due("23 shared", x.array(v, 0, true), 0);
        Check.due("23 twin", x.array(v, 0, false), 1);
        Check.due("23 its cells", x.get(1, 1, 5), 8);
        Check.due("23 unknown", x.array(9, 9, true), UNKNOWN);
        Check.due("23 a constant", x.array(name, 9, true), NO);
        Check.due("23 index", x.array(v, 2, true), INDEX);
        Check.due("23 index", x.array(v, -1, true), INDEX);
        Check.due("23 another lane", x.array(v, 1, true), CAST);
        Check.due("23 nothing", x.array(empty, 0, true), NULL);
        Check.due("23 nothing", x.array(empty, 0, false), NULL);
        x.row(8, 1);
        int kept = makeRow(x, kind, 2);
        Check.due("23 a kept one itself", x.array(kept, 0, true), 3);
        Check.due("23 its twin", x.array(kept, 0, false), 4);
        Check.due("23 is not kept", x.length(4, 2), 0);
        while (x.told(0) < 60) {
            x.row(0, 0);
        }
        Check.due("23 full", x.array(v, 0, false), FULL);
        Check.due("23 shared all the same", x.array(v, 0, true), 0);
        Check.due("23 a fault ahead of full", x.array(empty, 0, false), NULL);
    }

    private static void promise24() {
        RecordBridge x = new RecordBridge();
        for (int i = 0; i < 4; i++) {
            Kinds.addKind(x, 0);
            x.make(i);
        }
        int sealed = x.family(1 + 4 + 8, true);
        int open = x.family(2, false);
        int none = x.family(0, true);
        Check.due("24 first", x.match(sealed, 0), 0);
        Check.due("24 none, sealed", x.match(sealed, 1), NO);
        Check.due("24 second", x.match(sealed, 2), 1);
        Check.due("24 third", x.match(sealed, 3), 2);
        Check.due("24 none, open", x.match(open, 0), NONE);
        Check.due("24 open", x.match(open, 1), 0);
        Check.due("24 of no kinds", x.match(none, 1), NO);
        Check.due("24 family", x.match(3, 0), UNKNOWN);
        Check.due("24 family", x.match(-1, 0), UNKNOWN);
        Check.due("24 value", x.match(sealed, 4), UNKNOWN);
    }

    private static void order(String what, RecordBridge x, int a, int b, int want) {
        Check.due(what + " order", x.order(a, b), want - 100);
        Check.due(what + " order, exchanged", x.order(b, a), -want - 100);
        Check.due(what + " equal", x.equal(a, b), want == 0 ? 1 : 0);
        Check.due(what + " equal, exchanged", x.equal(b, a), want == 0 ? 1 : 0);
    }

    private static void promises25And26OfNumbers() {
        for (int lane = 0; lane <= 7; lane++) {
            RecordBridge x = new RecordBridge();
            int kind = Kinds.addKind(x, 0, lane);
            int zero = makeNumber(x, kind, lane, 0);
            int one = makeNumber(x, kind, lane, 1);
            int again = makeNumber(x, kind, lane, 1);
            order("25, 26 lane " + lane, x, zero, one, -1);
            order("25, 26 lane " + lane, x, one, again, 0);
            order("25, 26 lane " + lane, x, one, one, 0);
            if (lane > 2) {
                int low = makeNumber(x, kind, lane, -2);
                int lower = makeNumber(x, kind, lane, -3);
                order("25, 26 below 0, lane " + lane, x, low, zero, -1);
                order("25, 26 below 0, lane " + lane, x, lower, low, -1);
            }
            Check.due("25 unknown", x.equal(0, 9), UNKNOWN);
            Check.due("25 unknown", x.equal(-1, 0), UNKNOWN);
            Check.due("26 unknown", x.order(0, 9), UNKNOWN);
            Check.due("26 unknown", x.order(-1, 0), UNKNOWN);
        }
    }

    private static void promises25And26OfRows() {
        RecordBridge x = new RecordBridge();
        int kind = Kinds.addKind(x, 0, 9, 8);
        x.row(5, 2);
        x.row(5, 3);
        x.row(4, 3);
        x.row(8, 2);
        x.row(5, 2);
        int nothing = x.make(kind);
        int shorter = makeRow(x, kind, 0);
        int longer = makeRow(x, kind, 1);
        int ofInts = makeRow(x, kind, 2);
        int alike = makeRow(x, kind, 4);
        x.lay(3, 0, alike);
        int things = makeRow(x, kind, 3);
        x.lay(3, 0, shorter);
        int others = makeRow(x, kind, 3);
        x.lay(3, 1, shorter);
        int more = makeRow(x, kind, 3);
        order("25, 26 nothing first", x, nothing, ofInts, -1);
        order("25, 26 nothing and nothing", x, nothing, x.make(kind), 0);
        order("25, 26 by lane", x, ofInts, shorter, -1);
        order("25, 26 the shorter first", x, shorter, longer, -1);
        order("25, 26 other rows, alike", x, shorter, alike, 0);
        order("25, 26 things alike", x, things, others, 0);
        order("25, 26 a thing behind nothing", x, others, more, -1);
        x.put(0, 1, 5, 1);
        order("25, 26 the first cell that differs", x, longer, shorter, -1);
        order("25, 26 no longer alike", x, alike, shorter, -1);
        order("25, 26 deep within", x, things, others, -1);
        x.hand(1, nothing, false);
        int second = x.make(kind);
        order("25, 26 the second part", x, nothing, second, -1);
        order("25, 26 the first part ahead of the second", x, second, ofInts, -1);
    }

    private static void promises25And26OfEditions() {
        RecordBridge x = new RecordBridge();
        int kind = Kinds.addKind(x, 0, 4);
        int names = Kinds.addConstants(x, 0, 9, 3);
        int nine = x.named(names, 9);
        int three = x.named(names, 3);
        int big = makeNumber(x, kind, 4, 1000);
        x.edition(kind, 3, 0, 0);
        int small = makeNumber(x, kind, 4, 1);
        int bigAgain = makeNumber(x, kind, 4, 1000);
        order("25, 26 by edition", x, big, small, -1);
        order("25, 26 by edition", x, big, bigAgain, -1);
        order("25, 26 by kind", x, big, nine, -1);
        order("25, 26 constants as they were made", x, nine, three, -1);
        order("25, 26 the same constant", x, nine, nine, 0);
        x.edition(names, 0, 1, 0);
        order("25, 26 a later constant", x, three, x.named(names, 1), -1);
    }

    private static void promise27() {
        RecordBridge x = new RecordBridge();
        int kind = Kinds.addKind(x, 0, 0, 1, 2, 5, 6, 7);
        Kinds.addKind(x, 0);
        int boxes = Kinds.addKind(x, 0, 8, 9);
        int names = Kinds.addConstants(x, 0, 9, 3);
        for (int k = 0; k < 6; k++) {
            x.give(k, new int[] {0, 1, 2, 5, 6, 7}[k], -5_000_000_001L);
        }
        int v = x.make(kind);
        int h = kind;
        h = 31 * h + Boolean.hashCode(true);
        h = 31 * h + Byte.hashCode((byte) -5_000_000_001L);
        h = 31 * h + Character.hashCode((char) -5_000_000_001L);
        h = 31 * h + Long.hashCode(-5_000_000_001L);
        h = 31 * h + Float.hashCode((float) -5_000_000_001L);
        h = 31 * h + Double.hashCode((double) -5_000_000_001L);
        Check.due("27 numbers", x.hash(v), h);
        Check.due("27 no parts", x.hash(x.make(1)), 1);
        int three = x.named(names, 3);
        Check.due("27 a constant", x.hash(three), 7 * 3 + 1);
        int empty = x.make(boxes);
        Check.due("27 nothing", x.hash(empty), 2 * 31 * 31);
        x.row(0, 2);
        x.put(0, 0, 0, 1);
        x.hand(0, three, false);
        x.hand(1, 0, true);
        Check.due("27 things and rows", x.hash(x.make(boxes)),
            31 * (31 * 2 + 22) + java.util.Arrays.hashCode(new boolean[] {true, false}));
        x.row(8, 2);
        x.lay(1, 1, three);
        x.hand(1, 1, true);
        Check.due("27 rows of things", x.hash(x.make(boxes)), 31 * 31 * 2 + 31 * 31 + 22);
        Check.due("27 unknown", x.hash(99), LOST);
        Check.due("27 unknown", x.hash(-1), LOST);
    }

    private static int traceOf(int from, int... numbers) {
        int trace = from;
        for (int number : numbers) {
            trace = 31 * trace + number;
        }
        return trace;
    }

    private static void promise28() {
        int[] weights = {2, 4, 4, 12};
        int[][] traces = {{3}, {4, 3}, {4, 3}, {5, 4, 3}};
        for (int body = 0; body <= 3; body++) {
            RecordBridge x = new RecordBridge();
            int names = Kinds.addConstants(x, body, 9, 3);
            int three = x.named(names, 3);
            int before = x.trace();
            Check.due("28 body " + body, x.weight(three), weights[body]);
            Check.due("28 trace " + body, x.trace(), traceOf(before, traces[body]));
        }
        RecordBridge x = new RecordBridge();
        int kind = Kinds.addKind(x, 0, 8, 9, 8, 9);
        int names = Kinds.addConstants(x, 3, 9);
        int name = x.named(names, 9);
        x.row(8, 3);
        x.row(0, 4);
        x.lay(0, 0, name);
        x.hand(1, 0, true);
        int leaf = x.make(kind);
        x.hand(0, leaf, false);
        x.hand(1, 0, true);
        x.hand(2, name, false);
        x.hand(3, 1, true);
        int v = x.make(kind);
        int before = x.trace();
        Check.due("28 cells alone, not the things in them", x.weight(leaf), 13);
        Check.due("28 trace", x.trace(), traceOf(before, 1, 2));
        before = x.trace();
        Check.due("28 10, 13, 3, 10 and 4", x.weight(v), 10 + 13 + 3 + 10 + 4);
        Check.due("28 trace", x.trace(), traceOf(before, 1, 2, 1, 2, 5, 4, 3));
        before = x.trace();
        Check.due("28 unknown", x.weight(9), UNKNOWN);
        Check.due("28 trace", x.trace(), before);
    }

    private static void promises29And30() {
        RecordBridge x = new RecordBridge();
        for (int i = 0; i < 11; i++) {
            Kinds.addKind(x, 0);
        }
        int kind = Kinds.addKind(x, 0, 0, 5, 6, 9, 8, 9);
        int names = Kinds.addConstants(x, 0, 98);
        x.row(8, 3);
        x.row(0, 2);
        x.put(1, 1, 0, 1);
        int name = x.named(names, 98);
        int empty = x.make(0);
        x.lay(0, 0, name);
        x.lay(0, 2, empty);
        x.give(0, 0, 2);
        x.give(1, 5, Long.MIN_VALUE);
        x.give(2, 6, -1);
        x.hand(3, 0, true);
        x.hand(5, 1, true);
        int v = x.make(kind);
        String want = "11(1=f,2=-9223372036854775808,3=" + Float.floatToIntBits(-1f) + ",4=[#98 ! 0()],5=!,6=[f t])";
        Check.shown("29", x, v, want);
        Check.shown("29 a constant", x, name, "#98");
        Check.due("30 behind the end", x.byteAt(3), NONE);
        Check.due("30 ahead of the first", x.byteAt(-1), NONE);
        Check.due("30 the last", x.byteAt(2), '8');
        Check.due("29 unknown", x.show(9), UNKNOWN);
        Check.due("30 stays", x.byteAt(0), '#');
        x.row(4, 0);
        x.give(0, 0, 1);
        x.give(1, 4, 0);
        x.give(2, 1, 0);
        x.hand(3, 3, true);
        Check.shown("29 no cells", x, x.make(kind), "11(1=t,2=0,3=0,4=[],5=!,6=!)");
    }

    private static void promise29Full() {
        RecordBridge x = new RecordBridge();
        int kind = Kinds.addKind(x, 0, 9, 9, 9, 9, 9, 8);
        x.row(5, 20);
        for (int i = 0; i < 20; i++) {
            x.put(0, i, 5, Long.MIN_VALUE);
        }
        int tail = nested(x, kind, -1, 5);
        // 0(1=[..],..,6=!): a row of 20 cells of 20 digits has 421 bytes
        Check.due("29 five rows", x.show(tail), 2 + 5 * (2 + 421 + 1) + 3 + 1);
        int small = nested(x, kind, -1, 0);
        Check.shown("29 small", x, small, "0(1=!,2=!,3=!,4=!,5=!,6=!)");
        exactlyFull(x, kind, tail, small);
    }

    private static int nested(RecordBridge x, int kind, int inner, int rows) {
        for (int k = 0; k < rows; k++) {
            x.hand(k, 0, true);
        }
        x.hand(5, inner, false);
        return x.make(kind);
    }

    /** A row of longs as the fifth part, filled digit by digit until 4000 bytes are reached, then one more. */
    private static void exactlyFull(RecordBridge x, int kind, int tail, int small) {
        int row = x.row(5, 20);
        for (int k = 0; k < 4; k++) {
            x.hand(k, 0, true);
        }
        x.hand(4, row, true);
        x.hand(5, tail, false);
        int v = x.make(kind);
        int count = x.show(v);
        for (int i = 0; i < 20 && count < 4000; i++) {
            long number = 1;
            x.put(row, i, 5, number);
            while (count < 4000 && number < 1_000_000_000_000_000_000L) {
                number *= 10;
                x.put(row, i, 5, number);
                count++;
                Check.due("29 a digit more", x.show(v), count);
            }
        }
        Check.due("29 as many as can be", x.show(v), 4000);
        Check.due("30 the last", x.byteAt(3999), ')');
        Check.due("30 none behind it", x.byteAt(4000), NONE);
        x.put(row, 19, 5, 10);
        Check.due("29 one more", x.show(v), FULL);
        Check.due("30 what was shown stays", x.byteAt(3999), ')');
        Check.shown("29 small again", x, small, "0(1=!,2=!,3=!,4=!,5=!,6=!)");
        Check.due("29 one more", x.show(v), FULL);
        Check.due("30 what was shown stays", x.byteAt(25), ')');
        Check.due("30 what was shown stays", x.byteAt(26), NONE);
    }

    private static void promise31() {
        RecordBridge x = new RecordBridge();
        int kind = Kinds.addKind(x, 0, 4, 6, 8, 9);
        x.row(4, 1);
        x.give(0, 4, -7);
        x.give(1, 4, 16777217);
        x.hand(3, 0, true);
        int v = x.make(kind);
        x.give(0, 4, 99);
        Check.due("31 unknown", x.carry(1), UNKNOWN);
        Check.due("31 to the same edition, a new one", x.carry(v), 1);
        Check.due("31 equal", x.equal(0, 1), 1);
        Check.due("31 manieth", x.of(1, 3), 1);
        x.edition(kind, 3, 0, 0);
        x.edition(kind, 2, 2, 7);
        x.edition(kind, 0, 50, 9);
        Check.due("31 carried", x.carry(v), 2);
        Check.due("31 edition", x.of(2, 1), 3);
        Check.shown("31 by labels", x, 2, "0(4=[0],3=!,2=" + Double.doubleToLongBits(16777216.0) + ",1=-7,50=!)");
        Check.due("31 its row is shared", x.accessor(2, 4), 0);
        Check.due("31 the elder stays", x.of(v, 1), 0);
        Check.due("31 the tray stays", x.make(kind), CAST);
        Check.due("31 trace", x.trace(), 100);
    }

    private static void promise31Faults() {
        RecordBridge x = new RecordBridge();
        int kind = Kinds.addKind(x, 0, 4, 8);
        int v = makeNumber(x, kind, 4, 0);
        x.edition(kind, 2, 2, 9);
        Check.due("31 nothing of another lane", x.carry(v), CAST);
        Check.due("31 fault", x.fault(), 3);
        Check.due("31 none came of it", x.told(3), 1);
        x.edition(kind, 1, 2, 0);
        Check.due("31 dropped", x.carry(v), 1);
        Check.shown("31 dropped", x, 1, "0(1=0)");
        x.edition(kind, 2, 1, 3);
        Check.due("31 an int to a short", x.carry(v), CAST);
        int truth = Kinds.addKind(x, 0, 4);
        int w = makeNumber(x, truth, 4, 1);
        x.edition(truth, 0, 2, 0);
        x.edition(truth, 0, 3, 6);
        Check.due("31 new ones are 0", x.carry(w), 3);
        Check.shown("31 new ones are 0", x, 3, "1(1=1,2=f,3=0)");
    }

    private static void promise31Rules() {
        RecordBridge x = new RecordBridge();
        int rising = Kinds.addKind(x, 1, 4, 4);
        int exchanged = Kinds.addKind(x, 2, 4, 4);
        int whole = Kinds.addKind(x, 3, 4);
        int twins = Kinds.addKind(x, 4, 9, 9);
        for (int kind = 0; kind < 2; kind++) {
            x.give(0, 4, 1);
            x.give(1, 4, 70000);
            x.make(kind);
            x.edition(kind, 3, 0, 0);
        }
        Check.due("31 rule 1", x.carry(0), THROWN);
        Check.due("31 rule 2", x.carry(1), 2);
        Check.shown("31 rule 2", x, 2, "1(2=1,1=70000)");
        int v = makeNumber(x, whole, 4, 1);
        x.edition(whole, 0, 2, 8);
        Check.due("31 rule 3", x.carry(v), THROWN);
        x.row(4, 1);
        x.row(8, 1);
        x.hand(0, 0, true);
        x.hand(1, 1, true);
        int w = x.make(twins);
        Check.due("31 rule 4", x.carry(w), w + 1);
        Check.due("31 rule 4 a twin of numbers", x.part(w + 1, 0), 4);
        Check.due("31 rule 4 a kept one as it is", x.part(w + 1, 1), 3);
        while (x.told(0) < 60) {
            x.row(0, 0);
        }
        Check.due("31 rule 4 twins are full", x.carry(w), FULL);
        Check.due("31 rule 2 without twins", x.carry(1), w + 2);
        Check.due("31 rule 1", rising + exchanged, 1);
    }

    private static void promise31Full() {
        RecordBridge x = new RecordBridge();
        int kind = Kinds.addKind(x, 0, 4);
        int v = makeNumber(x, kind, 4, 1);
        x.edition(kind, 2, 1, 3);
        int plain = Kinds.addKind(x, 0);
        while (x.told(3) < 200) {
            x.make(plain);
        }
        Check.due("31 full ahead of the fault", x.carry(v), FULL);
        Check.due("31 full", x.carry(1), FULL);
        Check.due("31 no fault", x.fault(), 0);
    }

    private static void promise31Constants() {
        RecordBridge x = new RecordBridge();
        int names = Kinds.addConstants(x, 0, 5, 6);
        int five = x.named(names, 5);
        int six = x.named(names, 6);
        Check.due("31 itself", x.carry(five), five);
        x.edition(names, 1, 5, 0);
        Check.due("31 gone", x.carry(five), NO);
        Check.due("31 there", x.carry(six), six);
        Check.due("31 of its edition", x.of(six, 1), 0);
        x.edition(names, 0, 5, 0);
        Check.due("31 its label is there again", x.carry(five), five);
        Check.due("31 a new one bears it", x.named(names, 5), 2);
        x.record(0);
        while (x.told(3) < 200) {
            x.make(1);
        }
        Check.due("31 no room is asked for", x.carry(six), six);
    }

    private static void promises32To34() {
        RecordBridge x = new RecordBridge();
        Check.due("33 none so far", x.fault(), 0);
        int kind = Kinds.addKind(x, 0, 4);
        int other = Kinds.addKind(x, 0);
        Check.due("34 kinds", x.told(1), 2);
        Check.due("34 started", x.told(4), 0);
        x.make(other);
        Check.due("32 a start", x.trace(), 101);
        x.make(kind);
        Check.due("32 another start", x.trace(), 31 * 101 + 100);
        Check.due("33 null", x.fault(), 1);
        Check.due("34 started", x.told(4), 2);
        x.row(0, -1);
        Check.due("33 size", x.fault(), 4);
        x.row(0, 99);
        Check.due("33 a refusal is none", x.fault(), 4);
        x.part(0, 0);
        Check.due("33 of a call that answers a long", x.fault(), 2);
        Check.due("34 faults", x.told(5), 3);
        Check.due("34 values", x.told(3), 1);
        x.family(3, true);
        Check.due("34 families", x.told(2), 1);
        x.row(0, 1);
        Check.due("34 rows", x.told(0), 1);
        Check.due("34 outside", x.told(6), OUTSIDE);
        Check.due("34 outside", x.told(-1), OUTSIDE);
        for (int i = 0; i < 20; i++) {
            x.weight(0);
        }
        Check.due("32 wraps", x.trace(), wrapped(31 * 101 + 100));
    }

    private static int wrapped(int from) {
        int trace = from;
        for (int i = 0; i < 20; i++) {
            trace = traceOf(trace, 1, 2);
        }
        return trace;
    }
}
