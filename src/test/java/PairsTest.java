/**
 * Every LANE against every other wherever the document tells LANES apart: what may lie on THE TRAY for a PART, the
 * RULES, CARRIED, copy(), array(), ORDER of ROWS.
 */
public final class PairsTest {
    private static final int NO = RecordBridge.NO, NONE = RecordBridge.NONE;
    private static final int NULL = -11, CAST = -13, THROWN = -15;
    private static final int THING = 8, ROW = 9, NOTHING = 10;
    private static final String[] WIDENED = {"0", "134567", "24567", "34567", "4567", "567", "67", "7", "8", "9"};

    public static void main(String[] args) {
        for (int a = 0; a <= ROW; a++) {
            for (int b = 0; b <= ROW; b++) {
                trayForPart(a, b);
                ruleOne(a, b);
                ruleTwo(a, b);
                carried(a, b);
                carriedNothing(a, b);
            }
            nothingForPart(a);
            newPartIsCarried(a);
            ruleThree(a);
            arrayOfPart(a);
        }
        for (int a = 0; a <= THING; a++) {
            for (int b = 0; b <= THING; b++) {
                copyOfRows(a, b);
                orderOfRows(a, b);
            }
            twinOfRow(a);
            ruleFour(a);
        }
        Check.end();
    }

    private static boolean isWidened(int from, int to) {
        return WIDENED[from].indexOf('0' + to) >= 0;
    }

    private static boolean isWhole(int lane) {
        return lane >= 1 && lane <= 5;
    }

    /** KIND 0 and VALUE 0 (no PARTS), ROW 0 (one INT), so that there is a THING and a ROW to hand. */
    private static RecordBridge start() {
        RecordBridge x = new RecordBridge();
        x.record(0);
        x.make(0);
        x.row(4, 1);
        return x;
    }

    private static void place(RecordBridge x, int k, int sort, long v) {
        if (sort < THING) {
            x.give(k, sort, v);
        } else {
            x.hand(k, sort == NOTHING ? -1 : 0, sort == ROW);
        }
    }

    /** A number that COMES to a LANE, TOLD; the THING and the ROW that are handed are both of number 0. */
    private static long told(int lane, long v) {
        switch (lane) {
            case 0: return v & 1;
            case 1: return (byte) v;
            case 2: return (char) v;
            case 3: return (short) v;
            case 4: return (int) v;
            case 6: return Float.floatToIntBits(v);
            case 7: return Double.doubleToLongBits(v);
            default: return lane >= THING ? 0 : v;
        }
    }

    private static void trayForPart(int lane, int lies) {
        RecordBridge x = start();
        int kind = Kinds.addKind(x, 0, lane);
        place(x, 0, lies, 5);
        boolean isFine = isWidened(lies, lane);
        String what = "18 " + lies + " for a PART of " + lane;
        Check.due(what, x.make(kind), isFine ? 1 : CAST);
        Check.due(what + " has STARTED", x.info(kind, 3), 1);
        Check.due(what + " made", x.info(kind, 4), isFine ? 1 : 0);
        if (isFine) {
            Check.due(what + " part", x.part(1, 0), told(lane, 5));
            Check.due(what + " accessor", x.accessor(1, 1), told(lane, 5));
        } else {
            Check.due(what + " fault", x.fault(), 3);
        }
    }

    private static void nothingForPart(int lane) {
        RecordBridge x = start();
        int kind = Kinds.addKind(x, 0, lane);
        Check.due("18 nothing for a PART of " + lane, x.make(kind), lane < THING ? NULL : 1);
        Check.due("18 part", lane < THING ? x.fault() : x.part(1, 0), lane < THING ? 1 : NONE);
    }

    private static void ruleOne(int a, int b) {
        RecordBridge x = start();
        int kind = Kinds.addKind(x, 1, a, b);
        long[][] pairs = {{1, 0}, {1, 1}, {0, 1}};
        for (int i = 0; i < 3; i++) {
            place(x, 0, a, pairs[i][0]);
            place(x, 1, b, pairs[i][1]);
            boolean isThrown = i == 0 && isWhole(a) && isWhole(b);
            int next = x.told(3);
            Check.due("18 RULE 1 of " + a + " and " + b + " pair " + i, x.make(kind), isThrown ? THROWN : next);
        }
    }

    private static void ruleTwo(int a, int b) {
        RecordBridge x = start();
        int kind = Kinds.addKind(x, 2, a, b);
        String what = "18 RULE 2 of " + a + " and " + b;
        // too great for BYTES, and below 0 where the LANE has such numbers
        long[][] pairs = {{100, 1}, {7, 7}, {3, 9}, {32767, -129}, {70000, -70001}};
        for (long[] pair : pairs) {
            place(x, 0, a, pair[0]);
            place(x, 1, b, pair[1]);
            int v = x.make(kind);
            long first = told(a, pair[0]);
            long second = told(b, pair[1]);
            boolean isTurned = isWhole(a) && isWhole(b) && first > second;
            Check.due(what + " part 0 " + pair[0], x.part(v, 0), isTurned ? told(a, second) : first);
            Check.due(what + " part 1 " + pair[1], x.part(v, 1), isTurned ? told(b, first) : second);
        }
    }

    private static void ruleThree(int lane) {
        RecordBridge x = start();
        int kind = Kinds.addKind(x, 3, 4, 4, 4, 4, 4, lane);
        for (int k = 0; k < 5; k++) {
            x.give(k, 4, 0);
        }
        Check.due("18 RULE 3 nothing for a last PART of " + lane, x.make(kind), lane < THING ? NULL : THROWN);
        place(x, 5, lane, 0);
        Check.due("18 RULE 3 something for a last PART of " + lane, x.make(kind), 1);
    }

    private static void ruleFour(int lane) {
        RecordBridge x = start();
        int plain = Kinds.addKind(x, 0, 9);
        int kind = Kinds.addKind(x, 4, 9);
        int row = x.row(lane, 2);
        x.hand(0, row, true);
        x.make(plain);
        int shared = lane == THING ? row + 1 : row;
        Check.due("18 RULE 0, a ROW of " + lane, x.part(1, 0), shared);
        Check.due("18 RULE 0, KEPT", x.length(shared, 2), lane == THING ? 1 : 0);
        x.hand(0, row, true);
        x.make(kind);
        Check.due("18 RULE 4, a ROW of " + lane, x.part(2, 0), shared + 1);
        Check.due("18 RULE 4, KEPT", x.length(shared + 1, 2), lane == THING ? 1 : 0);
        Check.due("18 RULE 4, its LANE", x.length(shared + 1, 0), lane);
        Check.due("18 RULE 4, its cells", x.length(shared + 1, 1), 2);
        x.carry(2);
        Check.due("31 RULE 4, a ROW of " + lane, x.part(3, 0), lane == THING ? shared + 1 : shared + 2);
        x.carry(1);
        Check.due("31 RULE 0, a ROW of " + lane, x.part(4, 0), shared);
    }

    private static void carried(int from, int to) {
        RecordBridge x = start();
        int kind = Kinds.addKind(x, 0, from);
        place(x, 0, from, 5);
        x.make(kind);
        String what = "31 from " + from + " to " + to;
        Check.due(what + " edition", x.edition(kind, 2, 1, to), 1);
        boolean isFine = isWidened(from, to);
        Check.due(what, x.carry(1), isFine ? 2 : CAST);
        Check.due(what + " made", x.info(kind, 4), isFine ? 2 : 1);
        if (isFine) {
            Check.due(what + " part", x.part(2, 0), told(to, 5));
            Check.due(what + " edition", x.of(2, 1), 1);
        }
        Check.due(what + " the elder one", x.part(1, 0), told(from, 5));
    }

    /** "(whatever it is)": nothing, and 0, are CAST too. */
    private static void carriedNothing(int from, int to) {
        RecordBridge x = start();
        int kind = Kinds.addKind(x, 0, from);
        place(x, 0, from < THING ? from : NOTHING, 0);
        x.make(kind);
        x.edition(kind, 2, 1, to);
        Check.due("31 nothing, 0 from " + from + " to " + to, x.carry(1), isWidened(from, to) ? 2 : CAST);
    }

    private static void newPartIsCarried(int lane) {
        RecordBridge x = start();
        int kind = Kinds.addKind(x, 0);
        x.make(kind);
        x.edition(kind, 0, 99, lane);
        Check.due("31 a new PART of " + lane, x.carry(1), 2);
        Check.due("31 is 0, nothing", x.part(2, 0), lane < THING ? 0 : NONE);
        x.edition(kind, 1, 99, lane);
        x.edition(kind, 0, 99, lane);
        Check.due("31 a LABEL that was there in between", x.carry(2), 3);
        Check.due("31 by its LABEL", x.part(3, 0), lane < THING ? 0 : NONE);
    }

    private static void arrayOfPart(int lane) {
        RecordBridge x = start();
        int kind = Kinds.addKind(x, 0, lane);
        place(x, 0, lane, 0);
        x.make(kind);
        Check.due("23 a PART of " + lane, x.array(1, 0, true), lane == ROW ? 0 : CAST);
        Check.due("23 a twin of a PART of " + lane, x.array(1, 0, false), lane == ROW ? 1 : CAST);
    }

    private static void copyOfRows(int a, int b) {
        RecordBridge x = start();
        int from = x.row(a, 3);
        int to = x.row(b, 3);
        fillFirst(x, from, a);
        Check.due("8 from " + a + " to " + b, x.copy(from, 0, to, 1, 2), a == b ? 2 : NO);
        Check.due("8 none from " + a + " to " + b, x.copy(from, 3, to, 3, 0), a == b ? 0 : NO);
        Check.due("8 cell 0", cell(x, to, b, 0), b == THING ? NONE : 0);
        long want = a == b ? told(b, 5) : b == THING ? NONE : 0;
        Check.due("8 cell 1", cell(x, to, b, 1), want);
    }

    private static void fillFirst(RecordBridge x, int row, int lane) {
        if (lane == THING) {
            x.lay(row, 0, 0);
        } else {
            x.put(row, 0, lane, 5);
        }
    }

    private static long cell(RecordBridge x, int row, int lane, int i) {
        return lane == THING ? x.at(row, i) : x.get(row, i, lane);
    }

    /** By LANE ahead of cells: the ROW of the lesser LANE has the greater cell. */
    private static void orderOfRows(int a, int b) {
        RecordBridge x = start();
        int kind = Kinds.addKind(x, 0, 9);
        int first = x.row(a, 1);
        int second = x.row(b, 1);
        fillFirst(x, a < b ? first : second, a < b ? a : b);
        x.hand(0, first, true);
        x.make(kind);
        x.hand(0, second, true);
        x.make(kind);
        // of one LANE, the second one is filled, so it is behind
        int want = a == b ? -1 : Integer.compare(a, b);
        Check.due("26 ROWS of " + a + " and " + b, x.order(1, 2), want - 100);
        Check.due("25 ROWS of " + a + " and " + b, x.equal(1, 2), 0);
        Check.due("25 itself", x.equal(1, 1), 1);
    }

    private static void twinOfRow(int lane) {
        RecordBridge x = start();
        int row = x.row(lane, 2);
        fillFirst(x, row, lane);
        int twin = x.twin(row);
        Check.due("9 the next number", twin, row + 1);
        Check.due("9 its LANE", x.length(twin, 0), lane);
        Check.due("9 its cells", x.length(twin, 1), 2);
        Check.due("9 not KEPT", x.length(twin, 2), 0);
        Check.due("9 cell 0", cell(x, twin, lane, 0), told(lane, 5));
        Check.due("9 cell 1", cell(x, twin, lane, 1), lane == THING ? NONE : 0);
        int none = x.twin(x.row(lane, 0));
        Check.due("9 of none", x.length(none, 1), 0);
    }
}
