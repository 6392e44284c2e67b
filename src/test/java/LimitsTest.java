import java.util.Arrays;

/** What is "at most", "ever", "at first", empty or full: the last that is fine, the first that is not. */
public final class LimitsTest {
    private static final int UNKNOWN = RecordBridge.UNKNOWN, NO = RecordBridge.NO, FULL = RecordBridge.FULL;
    private static final int NONE = RecordBridge.NONE;
    private static final long LOST = RecordBridge.LOST;
    private static final int NULL = -11, INDEX = -12, CAST = -13, THROWN = -15;

    public static void main(String[] args) {
        nothingIsThere();
        cellsAtFirst();
        labelsAndLanes();
        editionsOfNothing();
        fourEditions();
        partsInOrder();
        constantsComeAndGo();
        constantsFillTheRoom();
        constantsAreFull();
        sixPlaces();
        partByPart();
        startedWhateverComes();
        rulesOfPartsThatWent();
        ruleThreeLooksAtEach();
        ruleAheadOfSize();
        sizeOfThings();
        deepByRows();
        twinsFillTheRoom();
        extremesInOrder();
        hashesWrap();
        weightIsDeep();
        weightOfNumbers();
        numbersShown();
        nothingShownYet();
        carriedAtOnce();
        carriedIntoTheLastPlace();
        castAheadOfTheRest();
        sixteenKindsMatched();
        Check.end();
    }

    private static int addConstants(RecordBridge x, int count) {
        return Kinds.addConstants(x, 0, Arrays.copyOf(new int[] {1, 2, 3, 4, 5, 6, 7, 8}, count));
    }

    private static int makeOf(RecordBridge x, int kind, int lane, long... numbers) {
        for (int k = 0; k < numbers.length; k++) {
            x.give(k, lane, numbers[k]);
        }
        return x.make(kind);
    }

    private static void makeMany(RecordBridge x, int kind, int upTo) {
        for (int i = x.told(3); i < upTo; i++) {
            x.make(kind);
        }
    }

    private static void nothingIsThere() {
        RecordBridge x = new RecordBridge();
        Check.due("1 no FAMILY", x.match(0, 0), UNKNOWN);
        Check.due("1 nothing to show", x.show(0), UNKNOWN);
        Check.due("1 nothing to carry", x.carry(0), UNKNOWN);
        Check.due("1 nothing to twin", x.twin(0), UNKNOWN);
        Check.due("1 nothing to hand", x.hand(0, 0, false), UNKNOWN);
        Check.due("1 nothing to hand", x.hand(0, 0, true), UNKNOWN);
        Check.due("1 a FAMILY of none", x.family(0, true), 0);
        int six = Kinds.addKind(x, 0, 8, 8, 8, 9, 9, 9);
        Check.due("1 the tray holds nothing", x.make(six), 0);
        for (int k = 0; k < 6; k++) {
            Check.due("1 place " + k, x.part(0, k), NONE);
        }
    }

    private static void cellsAtFirst() {
        for (int lane = 0; lane <= 8; lane++) {
            RecordBridge x = new RecordBridge();
            Check.due("2 20 cells", x.row(lane, 20), 0);
            Check.due("2 no cells", x.row(lane, 0), 1);
            Check.due("2 how many", x.length(0, 1), 20);
            Check.due("2 how many", x.length(1, 1), 0);
            for (int i = 0; i < 20; i++) {
                Check.due("2 at first, LANE " + lane, lane == 8 ? x.at(0, i) : x.get(0, i, lane), lane == 8 ? NONE : 0);
            }
            Check.due("3, 5 the last cell", lane == 8 ? x.lay(0, 19, -1) : x.put(0, 19, lane, 1), 1);
            Check.due("3, 5 behind it", lane == 8 ? x.lay(0, 20, -1) : x.put(0, 20, lane, 1), INDEX);
            Check.due("3, 5 no cells", lane == 8 ? x.lay(1, 0, -1) : x.put(1, 0, lane, 1), INDEX);
            Check.due("8 all of them onto themselves", x.copy(0, 0, 0, 0, 20), 20);
            Check.due("8 one too many", x.copy(0, 0, 0, 0, 21), INDEX);
            Check.due("8 none of none", x.copy(1, 0, 1, 0, 0), 0);
            Check.due("8 one of none", x.copy(1, 0, 0, 0, 1), INDEX);
            Check.due("8 one onto none", x.copy(0, 0, 1, 0, 1), INDEX);
            Check.due("8 behind none", x.copy(1, 1, 0, 0, 0), INDEX);
        }
    }

    private static void labelsAndLanes() {
        RecordBridge x = new RecordBridge();
        int kind = x.record(0);
        int names = x.constants(0);
        Check.due("12 the least LABEL, the least LANE", x.more(kind, 1, 0), 1);
        Check.due("12 the greatest of both", x.more(kind, 99, 9), 2);
        Check.due("12 the least LABEL", x.more(names, 1, Integer.MIN_VALUE), 1);
        Check.due("12 the greatest LABEL", x.more(names, 99, Integer.MAX_VALUE), 2);
        makeOf(x, kind, 0, 1);
        Check.due("19 the least LABEL", x.named(names, 1), 1);
        Check.due("19 the greatest LABEL", x.named(names, 99), 2);
        Check.due("21 the least LABEL", x.accessor(0, 1), 1);
        Check.due("21 the greatest LABEL", x.accessor(0, 99), NONE);
        Check.due("13 the least of both go", x.edition(kind, 1, 1, 77), 1);
        Check.due("13 and come again", x.edition(kind, 0, 1, 9), 2);
        Check.due("13 the greatest LABEL, the least LANE", x.edition(kind, 2, 99, 0), 3);
        Check.due("13 the greatest LABEL goes", x.edition(names, 1, 99, 77), 1);
        Check.due("13 and comes again", x.edition(names, 0, 99, 77), 2);
    }

    private static void editionsOfNothing() {
        RecordBridge x = new RecordBridge();
        int kind = Kinds.addKind(x, 0);
        int names = addConstants(x, 1);
        int none = x.constants(0);
        x.make(kind);
        x.named(names, 1);
        Check.due("13 no PARTS in the other order", x.edition(kind, 3, 0, 0), 1);
        Check.due("13 no PART to go", x.edition(kind, 1, 1, 0), NO);
        Check.due("13 no PART to change", x.edition(kind, 2, 1, 0), NO);
        Check.due("13 the first PART", x.edition(kind, 0, 1, 8), 2);
        Check.due("13 goes", x.edition(kind, 1, 1, 8), 3);
        Check.due("15 none", x.info(kind, 1), 0);
        Check.due("18 of no PARTS", x.make(kind), 2);
        Check.due("13 the one CONSTANT goes", x.edition(names, 1, 1, 0), 1);
        Check.due("15 none", x.info(names, 1), 0);
        Check.due("19 no such LABEL", x.named(names, 1), NO);
        Check.due("13 none in the other order", x.edition(names, 3, 0, 0), 2);
        Check.due("13 a new one of that LABEL", x.edition(names, 0, 1, 0), 3);
        Check.due("19 another VALUE", x.named(names, 1), 3);
        Check.due("22 the second", x.of(3, 3), 1);
        Check.due("25 not the same one", x.equal(1, 3), 0);
        Check.due("19 of no CONSTANTS", x.named(none, 1), NO);
        Check.due("13 so they have not STARTED", x.edition(none, 0, 1, 0), NO);
    }

    private static void fourEditions() {
        for (int what = 0; what <= 3; what++) {
            RecordBridge x = new RecordBridge();
            int kind = Kinds.addKind(x, 0, 8, 8);
            x.make(kind);
            for (int i = 1; i <= 3; i++) {
                Check.due("13 EDITION " + i, x.edition(kind, 3, 0, 0), i);
                Check.due("15 the newest", x.info(kind, 2), i);
            }
            Check.due("13 a fifth one, " + what, x.edition(kind, what, what == 0 ? 9 : 1, 8), FULL);
            Check.due("13 NO ahead of it, " + what, x.edition(kind, what, what == 0 ? 1 : 9, 8), what == 3 ? FULL : NO);
            Check.due("15 the newest stays", x.info(kind, 2), 3);
            Check.due("15 its PARTS stay", x.info(kind, 1), 2);
        }
    }

    private static void partsInOrder() {
        RecordBridge x = new RecordBridge();
        int kind = Kinds.addKind(x, 0, 8, 8, 8, 8, 8, 8);
        Check.shown("12 in the order told", x, x.make(kind), "0(1=!,2=!,3=!,4=!,5=!,6=!)");
        x.edition(kind, 3, 0, 0);
        Check.shown("13 six in the other order", x, x.make(kind), "0(6=!,5=!,4=!,3=!,2=!,1=!)");
        x.edition(kind, 1, 4, 0);
        Check.shown("13 the others stay in order", x, x.make(kind), "0(6=!,5=!,3=!,2=!,1=!)");
        x.edition(kind, 3, 0, 0);
        Check.shown("13 five in the other order", x, x.make(kind), "0(1=!,2=!,3=!,5=!,6=!)");
        Check.due("13 those of the elder EDITION", x.part(2, 4), NONE);
        Check.due("13 five, no sixth", x.part(2, 5), LOST);
        int other = Kinds.addKind(x, 0, 8, 8, 8);
        x.make(other);
        x.edition(other, 1, 1, 0);
        Check.shown("13 the first goes", x, x.make(other), "1(2=!,3=!)");
        x.edition(other, 1, 3, 0);
        Check.shown("13 the last goes", x, x.make(other), "1(2=!)");
        x.edition(other, 0, 1, 9);
        Check.shown("13 one more is the last", x, x.make(other), "1(2=!,1=!)");
    }

    private static void constantsComeAndGo() {
        RecordBridge x = new RecordBridge();
        int names = addConstants(x, 3);
        int second = x.named(names, 2);
        x.edition(names, 1, 2, 0);
        x.edition(names, 0, 50, 0);
        Check.due("19 it has gone", x.named(names, 2), NO);
        Check.due("2 it stays a VALUE", x.of(second, 4), 2);
        Check.due("2 it stays a VALUE", x.weight(second), 2);
        Check.shown("2 it stays a VALUE", x, second, "#2");
        Check.due("31 but NO", x.carry(second), NO);
        Check.due("15 all that were made", x.info(names, 4), 4);
        Check.due("15 those of the newest", x.info(names, 1), 3);
        int late = x.named(names, 50);
        Check.due("2 made as it came", late, 3);
        Check.due("22 of the EDITION that was newest then", x.of(late, 1), 2);
        Check.due("27 the fourth", x.hash(late), 7 * names + 3);
        Check.due("28 the fourth", x.weight(late), 4);
        Check.due("2 it starts but once", x.told(4), 1);
        x.edition(names, 3, 0, 0);
        Check.due("19 the same in the other order", x.named(names, 50), late);
        Check.due("19 the same in the other order", x.named(names, 1), 0);
        Check.due("26 as they were made", x.order(0, late), -101);
    }

    private static void constantsFillTheRoom() {
        for (int room = 7; room <= 8; room++) {
            RecordBridge x = new RecordBridge();
            int kind = Kinds.addKind(x, 0);
            int names = addConstants(x, 8);
            makeMany(x, kind, 200 - room);
            int trace = x.trace();
            Check.due("19 room for " + room, x.named(names, 8), room == 8 ? 199 : FULL);
            Check.due("15 STARTED", x.info(names, 3), room == 8 ? 1 : 0);
            Check.due("15 made", x.info(names, 4), room == 8 ? 8 : 0);
            Check.due("34 VALUES", x.told(3), room == 8 ? 200 : 193);
            Check.due("32 trace", x.trace(), room == 8 ? 31 * trace + 101 : trace);
            Check.due("12 more, as it has not STARTED", x.more(names, 9, 0), room == 8 ? NO : FULL);
            Check.due("18 the room that is left", x.make(kind), room == 8 ? FULL : 193);
        }
    }

    private static void constantsAreFull() {
        RecordBridge x = new RecordBridge();
        int kind = Kinds.addKind(x, 0);
        int names = addConstants(x, 8);
        x.named(names, 1);
        Check.due("13 a ninth one", x.edition(names, 0, 9, 0), FULL);
        Check.due("13 no EDITION came of it", x.info(names, 2), 0);
        Check.due("13 one goes", x.edition(names, 1, 4, 0), 1);
        Check.due("13 room for one", x.edition(names, 0, 9, 0), 2);
        Check.due("15 eight again", x.info(names, 1), 8);
        Check.due("15 nine were made", x.info(names, 4), 9);
        int few = addConstants(x, 1);
        x.named(few, 1);
        makeMany(x, kind, 199);
        Check.due("13 room for the last VALUE", x.edition(few, 0, 2, 0), 1);
        Check.due("13 no room", x.edition(few, 0, 3, 0), FULL);
        Check.due("13 no EDITION came of it", x.info(few, 2), 1);
        Check.due("13 nor a CONSTANT", x.info(few, 1), 2);
        Check.due("13 in the other order, without room", x.edition(few, 3, 0, 0), 2);
        Check.due("13 a RECORD needs no room", x.edition(kind, 0, 3, 8), 1);
    }

    private static void sixPlaces() {
        RecordBridge x = new RecordBridge();
        int kind = Kinds.addKind(x, 0, 4, 4, 4, 4, 4, 4);
        int v = makeOf(x, kind, 4, 10, 11, 12, 13, 14, 15);
        for (int k = 0; k < 6; k++) {
            Check.due("18 place " + k + " for PART " + k, x.part(v, k), 10 + k);
        }
        Check.due("20 behind the last", x.part(v, 6), LOST);
        int one = Kinds.addKind(x, 0, 4);
        makeOf(x, one, 4, 1, 2, 3, 4, 5, 6);
        for (int k = 0; k < 6; k++) {
            Check.due("18 every place holds nothing then", x.make(kind), NULL);
            x.give(k, 4, 20 + k);
        }
        x.give(5, 4, 7);
        v = x.make(kind);
        Check.due("16 the latest number there", x.part(v, 5), 7);
        Check.due("16 the others stay", x.part(v, 4), 24);
        x.give(0, 4, 1);
        x.hand(0, -1, false);
        Check.due("17 nothing there", x.make(one), NULL);
        x.give(0, 4, 1);
        x.hand(0, -1, true);
        Check.due("17 nothing there", x.make(one), NULL);
    }

    private static void partByPart() {
        RecordBridge x = new RecordBridge();
        int kind = Kinds.addKind(x, 0, 4, 4);
        x.give(1, 5, 1);
        Check.due("18 nothing, ahead of another LANE", x.make(kind), NULL);
        x.give(0, 5, 1);
        x.hand(1, -1, false);
        Check.due("18 another LANE, ahead of nothing", x.make(kind), CAST);
        x.give(0, 4, 1);
        Check.due("18 nothing for the second", x.make(kind), NULL);
        x.give(1, 7, 1);
        Check.due("18 another LANE for the second", x.make(kind), CAST);
        x.give(1, 4, 1);
        x.hand(2, 0, true);
        x.give(5, 5, 1);
        Check.due("18 what lies behind the PARTS is not looked at", x.make(kind), 0);
    }

    private static void startedWhateverComes() {
        RecordBridge x = new RecordBridge();
        int plain = Kinds.addKind(x, 0, 8);
        int deepest = x.make(plain);
        for (int i = 1; i < 8; i++) {
            x.hand(0, deepest, false);
            deepest = x.make(plain);
        }
        int row = x.row(8, 1);
        for (int i = 1; i < 60; i++) {
            x.row(0, 0);
        }
        int trace = x.trace();
        int[] due = {NULL, CAST, FULL, THROWN, FULL};
        int[] kinds = {
            Kinds.addKind(x, 0, 4), Kinds.addKind(x, 0, 9), Kinds.addKind(x, 0, 9), Kinds.addKind(x, 3, 8),
            Kinds.addKind(x, 0, 8),
        };
        int[] handed = {-1, 0, row, -1, deepest};
        for (int i = 0; i < due.length; i++) {
            x.hand(0, handed[i], i == 2);
            Check.due("18 refused", x.make(kinds[i]), due[i]);
            Check.due("18 STARTED all the same", x.info(kinds[i], 3), 1);
            Check.due("18 none was made", x.info(kinds[i], 4), 0);
            trace = 31 * trace + 100 + kinds[i];
            Check.due("18 TRACE", x.trace(), trace);
            Check.due("13 an EDITION can come", x.edition(kinds[i], 3, 0, 0), 1);
            Check.due("12 no PART more", x.more(kinds[i], 50, 4), NO);
        }
        Check.due("34 STARTED", x.told(4), 6);
    }

    /** A RULE of PARTS 0 and 1 looks at those of the newest EDITION alone. */
    private static void rulesOfPartsThatWent() {
        for (int rule = 1; rule <= 2; rule++) {
            RecordBridge x = new RecordBridge();
            int kind = Kinds.addKind(x, rule, 4, 4);
            int v = makeOf(x, kind, 4, 5, 6);
            x.edition(kind, 1, 2, 0);
            Check.due("18 RULE " + rule + " of one PART", makeOf(x, kind, 4, 9), 1);
            Check.due("18 as it lay there", x.part(1, 0), 9);
            Check.due("31 RULE " + rule + " of one PART", x.carry(v), 2);
            x.edition(kind, 1, 1, 0);
            Check.due("18 RULE " + rule + " of none", x.make(kind), 3);
            x.edition(kind, 0, 3, 4);
            Check.due("18 RULE " + rule + " of a new one", makeOf(x, kind, 4, 9), 4);
        }
    }

    private static void ruleThreeLooksAtEach() {
        for (int k = 0; k < 6; k++) {
            RecordBridge x = new RecordBridge();
            int kind = Kinds.addKind(x, 3, 8, 9, 8, 9, 8, 9);
            x.make(Kinds.addKind(x, 0));
            x.row(4, 0);
            for (int i = 0; i < 6; i++) {
                x.hand(i, i == k ? -1 : 0, i % 2 == 1);
            }
            Check.due("18 RULE 3, nothing for PART " + k, x.make(kind), THROWN);
            x.hand(k, 0, k % 2 == 1);
            Check.due("18 RULE 3, something for PART " + k, x.make(kind), 1);
        }
    }

    /** A VALUE of SIZE 255 (and DEEP 8): twice it is too much. */
    private static int largest(RecordBridge x, int kind) {
        int v = x.make(kind);
        for (int i = 1; i < 8; i++) {
            x.hand(0, v, false);
            x.hand(1, v, false);
            v = x.make(kind);
        }
        return v;
    }

    private static void ruleAheadOfSize() {
        RecordBridge x = new RecordBridge();
        int plain = Kinds.addKind(x, 0, 8, 8);
        int big = largest(x, plain);
        Check.due("22 SIZE", x.of(big, 2), 255);
        Check.due("22 DEEP", x.of(big, 5), 8);
        int whole = Kinds.addKind(x, 3, 8, 8);
        x.hand(0, big, false);
        Check.due("18 THROWN ahead of DEEP", x.make(whole), THROWN);
        x.hand(1, big, false);
        Check.due("18 SIZE, DEEP", x.make(whole), FULL);
        Check.due("33 no FAULT of that", x.told(5), 1);
    }

    /** 1, 127, 127, 31 and 14 of one each: just 300. */
    private static void sizeOfThings() {
        RecordBridge x = new RecordBridge();
        int kind = Kinds.addKind(x, 0, 8, 8, 8, 9);
        int[] nested = new int[7];
        for (int i = 0; i < 7; i++) {
            int inner = i == 0 ? -1 : nested[i - 1];
            x.hand(0, inner, false);
            x.hand(1, inner, false);
            nested[i] = x.make(kind);
            Check.due("22 SIZE", x.of(nested[i], 2), (2 << i) - 1);
        }
        int row = x.row(8, 20);
        for (int i = 0; i < 15; i++) {
            x.lay(row, i, nested[0]);
        }
        x.hand(0, nested[6], false);
        x.hand(1, nested[6], false);
        x.hand(2, nested[4], false);
        x.hand(3, row, true);
        Check.due("18 a SIZE of 301", x.make(kind), FULL);
        x.lay(row, 3, -1);
        Check.due("18 nothing has no SIZE", x.make(kind), 7);
        Check.due("22 SIZE", x.of(7, 2), 300);
        x.hand(0, nested[6], false);
        x.hand(1, nested[6], false);
        x.hand(2, nested[5], false);
        Check.due("18 a SIZE of 318, without a ROW", x.make(kind), FULL);
        x.hand(2, -1, false);
        Check.due("18 a SIZE of 255", x.make(kind), 8);
    }

    private static void deepByRows() {
        RecordBridge x = new RecordBridge();
        int kind = Kinds.addKind(x, 0, 9);
        int names = addConstants(x, 1);
        int row = x.row(8, 20);
        int inner = x.named(names, 1);
        Check.due("22 a CONSTANT", x.of(inner, 5), 1);
        for (int deep = 2; deep <= 8; deep++) {
            x.lay(row, 19, inner);
            x.hand(0, row, true);
            inner = x.make(kind);
            Check.due("22 DEEP", x.of(inner, 5), deep);
            Check.due("22 SIZE", x.of(inner, 2), deep);
        }
        x.lay(row, 19, inner);
        int rows = x.told(0);
        x.hand(0, row, true);
        Check.due("18 too DEEP", x.make(kind), FULL);
        Check.due("18 no twin came of it", x.told(0), rows);
        x.lay(row, 19, -1);
        Check.due("18 the tray is as it was", x.make(kind), 8);
        Check.due("22 nothing is not DEEP", x.of(8, 5), 1);
        x.hand(0, x.row(4, 20), true);
        Check.due("22 nor are numbers", x.of(x.make(kind), 5), 1);
    }

    private static void twinsFillTheRoom() {
        for (int room = 2; room <= 3; room++) {
            RecordBridge x = new RecordBridge();
            int kind = Kinds.addKind(x, 4, 9, 9, 9, 8);
            int things = x.row(8, 1);
            int numbers = x.row(4, 1);
            for (int i = 2; i < 60 - room; i++) {
                x.row(0, 0);
            }
            x.hand(0, numbers, true);
            x.hand(1, things, true);
            x.hand(2, numbers, true);
            Check.due("18 twins", x.make(kind), room == 3 ? 0 : FULL);
            Check.due("34 ROWS", x.told(0), room == 3 ? 60 : 58);
            Check.due("18 no FAULT", x.told(5), 0);
            if (room == 3) {
                Check.due("18 in the order of PARTS", x.part(0, 0), 57);
                Check.due("18 in the order of PARTS", x.part(0, 1), 58);
                Check.due("18 in the order of PARTS", x.part(0, 2), 59);
                Check.due("31 no room for two", x.carry(0), FULL);
                x.hand(1, 58, true);
                Check.due("18 a KEPT one needs no room", x.make(kind), 1);
            } else {
                x.hand(2, -1, true);
                Check.due("18 room for two", x.make(kind), 0);
            }
        }
    }

    private static void extremesInOrder() {
        long[][] rising = {
            {0, 1}, {-128, -1, 0, 127}, {0, 1, 32768, 65535}, {-32768, -1, 0, 32767},
            {Integer.MIN_VALUE, -1, 0, Integer.MAX_VALUE}, {Long.MIN_VALUE, -1, 0, Long.MAX_VALUE},
            {Long.MIN_VALUE, -2, -1, 0, 1, 2, Long.MAX_VALUE}, {Long.MIN_VALUE, -2, -1, 0, 1, 2, Long.MAX_VALUE},
        };
        for (int lane = 0; lane <= 7; lane++) {
            RecordBridge x = new RecordBridge();
            int kind = Kinds.addKind(x, 0, lane);
            int rows = Kinds.addKind(x, 0, 9);
            int count = rising[lane].length;
            for (int i = 0; i < count; i++) {
                makeOf(x, kind, lane, rising[lane][i]);
            }
            for (int i = 0; i < count; i++) {
                x.put(x.row(lane, 1), 0, lane, rising[lane][i]);
                x.hand(0, i, true);
                x.make(rows);
            }
            for (int i = 0; i < count; i++) {
                for (int k = 0; k < count; k++) {
                    int want = Integer.compare(i, k);
                    Check.due("26 LANE " + lane, x.order(i, k), want - 100);
                    Check.due("26 cells of LANE " + lane, x.order(count + i, count + k), want - 100);
                    Check.due("25 LANE " + lane, x.equal(i, k), i == k ? 1 : 0);
                }
            }
        }
    }

    private static void hashesWrap() {
        RecordBridge x = new RecordBridge();
        int rows = Kinds.addKind(x, 0, 9);
        long[] numbers = new long[20];
        Object[] cells = new Object[20];
        int[] lanes = {1, 2, 3, 4, 5, 6, 7};
        for (int lane : lanes) {
            int row = x.row(lane, 20);
            for (int i = 0; i < 20; i++) {
                numbers[i] = i % 2 == 0 ? Long.MAX_VALUE >> 3 * i : Long.MIN_VALUE >> 3 * i;
                x.put(row, i, lane, numbers[i]);
                cells[i] = LanesTest.comes(lane, numbers[i]);
            }
            x.hand(0, row, true);
            Check.due("27 LANE " + lane, x.hash(x.make(rows)), Arrays.hashCode(cells));
        }
        x.hand(0, x.row(4, 0), true);
        Check.due("27 no cells", x.hash(x.make(rows)), 1);
        x.hand(0, x.row(8, 3), true);
        Check.due("27 nothing in its cells", x.hash(x.make(rows)), 31 * 31 * 31);
    }

    private static void weightIsDeep() {
        RecordBridge x = new RecordBridge();
        int kind = Kinds.addKind(x, 0, 8, 8);
        int v = largest(x, kind);
        int trace = x.trace();
        Check.due("28 255 RECORDS", x.weight(v), 2550);
        for (int i = 0; i < 255; i++) {
            trace = 31 * (31 * trace + 1) + 2;
        }
        Check.due("32 TRACE wraps", x.trace(), trace);
        Check.due("27 deep", x.hash(v), hashOfTwins(kind, 8));
        Check.due("25 deep", x.equal(v, x.carry(v)), 1);
        Check.due("29 deep", x.show(v), lengthOfTwins(8));
        Check.due("30 its last byte", x.byteAt(lengthOfTwins(8) - 1), ')');
        int other = Kinds.addKind(x, 0);
        Check.due("28 no PARTS", x.weight(x.make(other)), 10);
    }

    /** A number is no ROW's and no VALUE's, though there are such ones of that number. */
    private static void weightOfNumbers() {
        RecordBridge x = new RecordBridge();
        int kind = Kinds.addKind(x, 0, 0, 1, 2, 3, 4, 5);
        int six = Kinds.addKind(x, 0, 8, 9, 8, 9, 8, 9);
        x.row(4, 20);
        x.row(4, 3);
        for (int k = 0; k < 6; k++) {
            x.give(k, k, k % 2);
        }
        int v = x.make(kind);
        Check.due("28 numbers have no WEIGHT", x.weight(v), 10);
        Check.due("22 nor a SIZE", x.of(v, 2), 1);
        for (int k = 0; k < 6; k++) {
            x.hand(k, k % 2 == 1 ? k / 2 % 2 : v, k % 2 == 1);
        }
        int w = x.make(six);
        Check.due("28 all six PARTS", x.weight(w), 10 + 3 * 10 + 20 + 3 + 20);
        Check.due("22 SIZE", x.of(w, 2), 4);
        Check.due("28 nothing has none", x.weight(x.make(six)), 10);
    }

    private static void numbersShown() {
        long[] numbers = {
            0, 1, -1, 9, -9, 10, -10, 99, 100, -100, 127, -128, 32767, -32768, 65535, Integer.MAX_VALUE,
            Integer.MIN_VALUE, 999999999999999999L, 1000000000000000000L, Long.MAX_VALUE, Long.MIN_VALUE,
        };
        for (int lane = 0; lane <= 7; lane++) {
            RecordBridge x = new RecordBridge();
            int kind = Kinds.addKind(x, 0, lane);
            for (long n : numbers) {
                int v = makeOf(x, kind, lane, n);
                long told = x.part(v, 0);
                String want = lane > 0 ? Long.toString(told) : told == 1 ? "t" : "f";
                Check.due("29 LANE " + lane + " " + n, x.show(v), want.length() + 5);
                Check.due("29 its first sign", x.byteAt(4), want.charAt(0));
                Check.due("29 its last sign", x.byteAt(want.length() + 3), want.charAt(want.length() - 1));
                Check.due("29 the end", x.byteAt(want.length() + 4), ')');
                Check.due("29 behind it", x.byteAt(want.length() + 5), NONE);
            }
        }
    }

    private static int hashOfTwins(int kind, int deep) {
        int inner = deep == 1 ? 0 : hashOfTwins(kind, deep - 1);
        return 31 * (31 * kind + inner) + inner;
    }

    private static int lengthOfTwins(int deep) {
        int inner = deep == 1 ? 1 : lengthOfTwins(deep - 1);
        return "0(1=,2=)".length() + 2 * inner;
    }

    private static void nothingShownYet() {
        RecordBridge x = new RecordBridge();
        int kind = Kinds.addKind(x, 0, 9, 9, 9, 9, 9, 9);
        int pair = Kinds.addKind(x, 0, 8, 8);
        x.row(5, 20);
        for (int i = 0; i < 20; i++) {
            x.put(0, i, 5, Long.MIN_VALUE);
        }
        for (int k = 0; k < 6; k++) {
            x.hand(k, 0, true);
        }
        int v = x.make(kind);
        x.hand(0, v, false);
        x.hand(1, v, false);
        int both = x.make(pair);
        Check.due("29 too long", x.show(both), FULL);
        Check.due("30 nothing was SHOWN", x.byteAt(0), NONE);
        Check.due("33 no FAULT", x.fault(), 0);
        Check.due("29 one of them", x.show(v), 2 + 6 * 424);
        Check.due("30 the last", x.byteAt(2 + 6 * 424 - 1), ')');
        Check.due("30 behind it", x.byteAt(2 + 6 * 424), NONE);
        Check.due("29 too long", x.show(both), FULL);
        Check.due("30 what was SHOWN stays", x.byteAt(2 + 6 * 424 - 1), ')');
        Check.due("30 what was SHOWN stays", x.byteAt(2 + 6 * 424), NONE);
    }

    /** From its own LANE to the newest one at once, whatever the LANE was in between, and by LABELS that were away. */
    private static void carriedAtOnce() {
        RecordBridge x = new RecordBridge();
        int kind = Kinds.addKind(x, 0, 5, 4);
        x.give(0, 5, 9007199254740993L);
        x.give(1, 4, 33);
        int v = x.make(kind);
        x.edition(kind, 2, 1, 6);
        int step = x.carry(v);
        Check.due("31 a FLOAT", x.part(step, 0), Float.floatToIntBits(9007199254740993f));
        x.edition(kind, 2, 1, 7);
        Check.due("31 at once", x.part(x.carry(v), 0), Double.doubleToLongBits((double) 9007199254740993L));
        long byFloat = Double.doubleToLongBits((double) 9007199254740993f);
        Check.due("31 by way of a FLOAT", x.part(x.carry(step), 0), byFloat);
        x.edition(kind, 2, 1, 5);
        Check.due("31 back to its own LANE", x.part(x.carry(v), 0), 9007199254740993L);
        Check.due("31 a FLOAT is not WIDENED to that", x.carry(step), CAST);
        int other = Kinds.addKind(x, 0, 4, 4);
        int w = makeOf(x, other, 4, 8, 9);
        x.edition(other, 1, 1, 0);
        int short1 = x.carry(w);
        x.edition(other, 0, 1, 4);
        Check.shown("31 a LABEL that was away", x, x.carry(w), "1(2=9,1=8)");
        Check.shown("31 one that has lost it", x, x.carry(short1), "1(2=9,1=0)");
        x.edition(other, 1, 2, 0);
        Check.shown("31 the other one goes", x, x.carry(w), "1(1=8)");
    }

    private static void carriedIntoTheLastPlace() {
        RecordBridge x = new RecordBridge();
        int kind = Kinds.addKind(x, 0, 4);
        int names = addConstants(x, 1);
        int v = makeOf(x, kind, 4, 5);
        int name = x.named(names, 1);
        makeOf(x, kind, 4, 5);
        int plain = Kinds.addKind(x, 0);
        makeMany(x, plain, 199);
        Check.due("31 the last VALUE", x.carry(v), 199);
        Check.due("31 the third of its KIND", x.of(199, 3), 2);
        Check.due("31 no room", x.carry(v), FULL);
        Check.due("31 a CONSTANT needs none", x.carry(name), name);
        Check.due("34 VALUES", x.told(3), 200);
    }

    private static void castAheadOfTheRest() {
        RecordBridge x = new RecordBridge();
        int rising = Kinds.addKind(x, 1, 4, 4, 4);
        int twins = Kinds.addKind(x, 4, 9, 4);
        int v = makeOf(x, rising, 4, 1, 2, 3);
        x.edition(rising, 3, 0, 0);
        x.edition(rising, 0, 4, 8);
        Check.due("31 THROWN", x.carry(v), THROWN);
        x.edition(rising, 2, 1, 0);
        Check.due("31 CAST ahead of THROWN", x.carry(v), CAST);
        x.hand(0, x.row(4, 1), true);
        x.give(1, 4, 1);
        int w = x.make(twins);
        for (int i = x.told(0); i < 60; i++) {
            x.row(0, 0);
        }
        Check.due("31 twins are FULL", x.carry(w), FULL);
        x.edition(twins, 2, 2, 3);
        Check.due("31 CAST ahead of that", x.carry(w), CAST);
        x.edition(twins, 1, 2, 0);
        Check.due("31 twins are FULL", x.carry(w), FULL);
        x.edition(twins, 1, 1, 0);
        Check.due("31 no ROWS, no twins", x.carry(w), 2);
        Check.due("33 the latest FAULT", x.fault(), 3);
        Check.due("34 FAULTS", x.told(5), 3);
    }

    private static void sixteenKindsMatched() {
        RecordBridge x = new RecordBridge();
        for (int kind = 0; kind < 16; kind++) {
            Kinds.addKind(x, 0);
            x.make(kind);
        }
        x.family(0xFFFF, true);
        x.family(0x8001, false);
        x.family(0x7FFE, true);
        x.family(0, false);
        for (int v = 0; v < 16; v++) {
            boolean isEnd = v == 0 || v == 15;
            Check.due("24 all KINDS", x.match(0, v), v);
            Check.due("24 the first and the last", x.match(1, v), isEnd ? v / 15 : NONE);
            Check.due("24 all between", x.match(2, v), isEnd ? NO : v - 1);
            Check.due("24 none", x.match(3, v), NONE);
        }
        Check.due("14 a KIND that is none", x.family(0x10000, true), RecordBridge.OUTSIDE);
        Check.due("24 FAMILY", x.match(4, 0), UNKNOWN);
    }
}
