/** Promises 1 to 9. */
public final class RowsTest {
    private static final int UNKNOWN = RecordBridge.UNKNOWN, OUTSIDE = RecordBridge.OUTSIDE, NO = RecordBridge.NO;
    private static final int FULL = RecordBridge.FULL, NONE = RecordBridge.NONE;
    private static final long LOST = RecordBridge.LOST;
    private static final int INDEX = -12, CAST = -13, SIZE = -14;

    public static void main(String[] args) {
        promise1();
        promise2();
        promise3();
        promise4();
        promise5();
        promise6();
        promise7();
        promise8();
        promise9();
        Check.end();
    }

    private static void promise1() {
        RecordBridge x = new RecordBridge();
        for (int what = 0; what <= 5; what++) {
            Check.due("1 told(" + what + ")", x.told(what), 0);
        }
        Check.due("1 trace", x.trace(), 0);
        Check.due("1 fault", x.fault(), 0);
        Check.due("1 byteAt", x.byteAt(0), NONE);
        Check.due("1 no row", x.length(0, 0), UNKNOWN);
        Check.due("1 no kind", x.info(0, 0), UNKNOWN);
        Check.due("1 no value", x.of(0, 0), UNKNOWN);
        Check.due("1 the tray holds nothing", makeOneNumber(x), -11);
    }

    private static int makeOneNumber(RecordBridge x) {
        int kind = x.record(0);
        x.more(kind, 1, 4);
        return x.make(kind);
    }

    private static void promise2() {
        RecordBridge x = new RecordBridge();
        Check.due("2 lane -1", x.row(-1, 1), OUTSIDE);
        Check.due("2 lane 9", x.row(9, 1), OUTSIDE);
        Check.due("2 n 21", x.row(0, 21), OUTSIDE);
        Check.due("2 OUTSIDE ahead of FAULT", x.row(9, -1), OUTSIDE);
        Check.due("2 n -1", x.row(0, -1), SIZE);
        Check.due("2 n least", x.row(8, Integer.MIN_VALUE), SIZE);
        Check.due("2 fault", x.fault(), 4);
        for (int i = 0; i < 60; i++) {
            Check.due("2 row", x.row(i % 9, i % 21), i);
        }
        Check.due("2 a number is 0 at first", x.get(4, 0, 4), 0);
        Check.due("2 a thing is nothing at first", x.at(8, 7), NONE);
        Check.due("2 FULL", x.row(0, 0), FULL);
        Check.due("2 FULL ahead of FAULT", x.row(0, -1), FULL);
        Check.due("2 OUTSIDE ahead of FULL", x.row(0, 21), OUTSIDE);
        Check.due("2 told", x.told(0), 60);
    }

    private static void promise3() {
        RecordBridge x = new RecordBridge();
        x.row(4, 2);
        x.row(8, 2);
        x.row(0, 1);
        Check.due("3 unknown", x.put(3, 0, 99, 0), UNKNOWN);
        Check.due("3 unknown -1", x.put(-1, 0, 4, 0), UNKNOWN);
        Check.due("3 lane 8", x.put(0, 9, 8, 0), OUTSIDE);
        Check.due("3 lane -1", x.put(0, 0, -1, 0), OUTSIDE);
        Check.due("3 lane ahead of a row of things", x.put(1, 0, 8, 0), OUTSIDE);
        Check.due("3 things ahead of index", x.put(1, 2, 4, 0), CAST);
        Check.due("3 index ahead of widening", x.put(0, 2, 5, 0), INDEX);
        Check.due("3 index -1", x.put(0, -1, 4, 0), INDEX);
        Check.due("3 long to int", x.put(0, 0, 5, 0), CAST);
        Check.due("3 truth to int", x.put(0, 0, 0, 1), CAST);
        Check.due("3 int to truth", x.put(2, 0, 4, 1), CAST);
        Check.due("3 comes first, then is widened", x.put(0, 1, 1, 255), 1);
        Check.due("3 get", x.get(0, 1, 4), -1);
        Check.due("3 sign", x.put(0, 1, 2, -1), 1);
        Check.due("3 get", x.get(0, 1, 4), 65535);
        Check.due("3 odd", x.put(2, 0, 0, -3), 1);
        Check.due("3 get odd", x.get(2, 0, 0), 1);
        Check.due("3 even", x.put(2, 0, 0, Long.MIN_VALUE), 1);
        Check.due("3 get even", x.get(2, 0, 0), 0);
        Check.due("3 other cells stay", x.get(0, 0, 4), 0);
    }

    private static void promise4() {
        RecordBridge x = new RecordBridge();
        x.row(5, 1);
        x.row(8, 1);
        x.put(0, 0, 5, Long.MAX_VALUE);
        Check.due("4 long", x.get(0, 0, 5), Long.MAX_VALUE);
        Check.due("4 float", x.get(0, 0, 6), Float.floatToIntBits((float) Long.MAX_VALUE));
        Check.due("4 double", x.get(0, 0, 7), Double.doubleToLongBits((double) Long.MAX_VALUE));
        x.put(0, 0, 5, -1);
        Check.due("4 float's bits have their sign", x.get(0, 0, 6), Float.floatToIntBits(-1f));
        Check.due("4 no faults so far", x.told(5), 0);
        Check.due("4 unknown", x.get(2, 0, 5), LOST);
        Check.due("4 outside", x.get(0, 0, 8), LOST);
        Check.due("4 outside", x.get(0, 0, -1), LOST);
        Check.due("4 refusals are no faults", x.told(5), 0);
        Check.due("4 things", x.get(1, 5, 5), LOST);
        Check.due("4 fault 3", x.fault(), 3);
        Check.due("4 index", x.get(0, 1, 4), LOST);
        Check.due("4 fault 2", x.fault(), 2);
        Check.due("4 long to int", x.get(0, 0, 4), LOST);
        Check.due("4 fault 3", x.fault(), 3);
        Check.due("4 told", x.told(5), 3);
    }

    private static RecordBridge withKept() {
        RecordBridge x = new RecordBridge();
        x.row(8, 3);
        x.row(4, 3);
        x.record(0);
        x.more(0, 1, 9);
        x.hand(0, 0, true);
        x.make(0);
        return x;
    }

    private static void promise5() {
        RecordBridge x = withKept();
        Check.due("5 lay", x.lay(0, 1, 0), 1);
        Check.due("5 at", x.at(0, 1), 0);
        Check.due("5 the kept twin has cells of its own", x.at(2, 1), NONE);
        Check.due("5 lay nothing", x.lay(0, 1, -1), 1);
        Check.due("5 at", x.at(0, 1), NONE);
        Check.due("5 row", x.lay(3, 0, 0), UNKNOWN);
        Check.due("5 value 1", x.lay(0, 0, 1), UNKNOWN);
        Check.due("5 value -2", x.lay(0, 0, -2), UNKNOWN);
        Check.due("5 value ahead of kept", x.lay(2, 0, 1), UNKNOWN);
        Check.due("5 kept ahead of index", x.lay(2, 9, 0), NO);
        Check.due("5 another lane ahead of index", x.lay(1, 9, 0), CAST);
        Check.due("5 index", x.lay(0, 3, 0), INDEX);
        Check.due("5 index -1", x.lay(0, -1, -1), INDEX);
    }

    private static void promise6() {
        RecordBridge x = withKept();
        x.lay(0, 2, 0);
        Check.due("6 at", x.at(0, 2), 0);
        Check.due("6 nothing", x.at(0, 0), NONE);
        Check.due("6 unknown", x.at(3, 0), UNKNOWN);
        Check.due("6 another lane", x.at(1, 7), CAST);
        Check.due("6 index", x.at(0, 3), INDEX);
        Check.due("6 index", x.at(2, -1), INDEX);
    }

    private static void promise7() {
        RecordBridge x = withKept();
        Check.due("7 lane", x.length(1, 0), 4);
        Check.due("7 cells", x.length(1, 1), 3);
        Check.due("7 not kept", x.length(0, 2), 0);
        Check.due("7 kept", x.length(2, 2), 1);
        Check.due("7 lane of things", x.length(2, 0), 8);
        Check.due("7 unknown ahead", x.length(3, 3), UNKNOWN);
        Check.due("7 outside", x.length(0, 3), OUTSIDE);
        Check.due("7 outside", x.length(0, -1), OUTSIDE);
    }

    private static void promise8() {
        RecordBridge x = withKept();
        x.row(4, 5);
        for (int i = 0; i < 5; i++) {
            x.put(3, i, 4, i + 1);
        }
        Check.due("8 upward onto itself", x.copy(3, 0, 3, 1, 4), 4);
        cells("8 upward", x, 3, 1, 1, 2, 3, 4);
        Check.due("8 downward onto itself", x.copy(3, 2, 3, 0, 3), 3);
        cells("8 downward", x, 3, 2, 3, 4, 3, 4);
        Check.due("8 another", x.copy(3, 3, 1, 1, 2), 2);
        cells("8 another", x, 1, 0, 3, 4);
        Check.due("8 none at the end", x.copy(3, 5, 1, 3, 0), 0);
        Check.due("8 unknown", x.copy(4, 0, 1, 0, 0), UNKNOWN);
        Check.due("8 unknown", x.copy(1, 0, -1, 0, 0), UNKNOWN);
        Check.due("8 unlike lanes", x.copy(1, 9, 0, 0, 0), NO);
        Check.due("8 onto kept", x.copy(0, 9, 2, 0, 0), NO);
        Check.due("8 from kept", x.copy(2, 0, 0, 0, 3), 3);
        Check.due("8 below 0", x.copy(1, 0, 3, 0, -1), INDEX);
        Check.due("8 one too many", x.copy(1, 1, 3, 0, 3), INDEX);
        Check.due("8 one too many there", x.copy(1, 0, 3, 3, 3), INDEX);
        Check.due("8 from -1", x.copy(1, -1, 3, 0, 1), INDEX);
        Check.due("8 to -1", x.copy(1, 0, 3, -1, 1), INDEX);
        Check.due("8 greatest", x.copy(1, 1, 3, 1, Integer.MAX_VALUE), INDEX);
        cells("8 faults change nothing", x, 3, 2, 3, 4, 3, 4);
    }

    private static void cells(String what, RecordBridge x, int row, int... want) {
        for (int i = 0; i < want.length; i++) {
            Check.due(what + " cell " + i, x.get(row, i, 4), want[i]);
        }
    }

    private static void promise9() {
        RecordBridge x = withKept();
        x.put(1, 2, 4, 9);
        Check.due("9 twin", x.twin(1), 3);
        cells("9 like it", x, 3, 0, 0, 9);
        x.put(1, 2, 4, 8);
        cells("9 of its own", x, 3, 0, 0, 9);
        Check.due("9 of a kept one", x.twin(2), 4);
        Check.due("9 not kept", x.length(4, 2), 0);
        Check.due("9 lay", x.lay(4, 0, 0), 1);
        Check.due("9 unknown", x.twin(5), UNKNOWN);
        for (int i = 5; i < 60; i++) {
            Check.due("9 twin", x.twin(4), i);
        }
        Check.due("9 full", x.twin(4), FULL);
        Check.due("9 unknown ahead of full", x.twin(60), UNKNOWN);
    }
}
