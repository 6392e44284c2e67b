/** Promises 10 to 15. */
public final class KindsTest {
    private static final int UNKNOWN = RecordBridge.UNKNOWN, OUTSIDE = RecordBridge.OUTSIDE, NO = RecordBridge.NO;
    private static final int FULL = RecordBridge.FULL;

    public static void main(String[] args) {
        promises10And11();
        promise12();
        promise13OfRecords();
        promise13OfConstants();
        promise13Full();
        promise14();
        promise15();
        Check.end();
    }

    private static void promises10And11() {
        RecordBridge x = new RecordBridge();
        Check.due("10 -1", x.record(-1), OUTSIDE);
        Check.due("10 5", x.record(5), OUTSIDE);
        Check.due("11 -1", x.constants(-1), OUTSIDE);
        Check.due("11 4", x.constants(4), OUTSIDE);
        for (int i = 0; i < 16; i++) {
            boolean isConstants = i % 2 == 1;
            Check.due("10, 11", isConstants ? x.constants(i / 2 % 4) : x.record(i / 2 % 5), i);
            Check.due("10, 11 sort", x.info(i, 0), isConstants ? 1 : 0);
            Check.due("10, 11 without any", x.info(i, 1), 0);
        }
        Check.due("10 full", x.record(0), FULL);
        Check.due("11 full", x.constants(0), FULL);
        Check.due("10 outside ahead", x.record(5), OUTSIDE);
        Check.due("10 told", x.told(1), 16);
    }

    private static void promise12() {
        RecordBridge x = new RecordBridge();
        x.record(0);
        x.constants(0);
        Check.due("12 unknown", x.more(2, 0, 0), UNKNOWN);
        Check.due("12 word 0", x.more(0, 0, 0), OUTSIDE);
        Check.due("12 word 100", x.more(0, 100, 0), OUTSIDE);
        Check.due("12 lane -1", x.more(0, 1, -1), OUTSIDE);
        Check.due("12 lane 10", x.more(0, 1, 10), OUTSIDE);
        Check.due("12 word of constants", x.more(1, 100, 0), OUTSIDE);
        for (int i = 1; i <= 6; i++) {
            Check.due("12 part", x.more(0, i, i + 3), i);
        }
        Check.due("12 the label ahead of full", x.more(0, 6, 0), NO);
        Check.due("12 full", x.more(0, 99, 0), FULL);
        for (int i = 1; i <= 8; i++) {
            Check.due("12 constant, whatever lane", x.more(1, 100 - i, i * 1000), i);
        }
        Check.due("12 full", x.more(1, 1, 0), FULL);
        Check.due("12 the label", x.more(1, 99, 0), NO);
        x.make(0);
        Check.due("12 started", x.more(0, 98, 0), NO);
        x.named(1, 99);
        Check.due("12 started", x.more(1, 1, 0), NO);
        Check.due("12 outside ahead", x.more(1, 0, 0), OUTSIDE);
    }

    private static RecordBridge withStarted() {
        RecordBridge x = new RecordBridge();
        x.record(0);
        x.more(0, 10, 4);
        x.more(0, 20, 8);
        x.give(0, 4, 5);
        x.make(0);
        x.constants(0);
        x.more(1, 10, 0);
        x.more(1, 20, 0);
        x.named(1, 10);
        return x;
    }

    private static void promise13OfRecords() {
        RecordBridge x = withStarted();
        x.record(0);
        Check.due("13 unknown", x.edition(3, 9, 0, 0), UNKNOWN);
        Check.due("13 what -1", x.edition(0, -1, 30, 4), OUTSIDE);
        Check.due("13 what 4", x.edition(0, 4, 30, 4), OUTSIDE);
        Check.due("13 word", x.edition(0, 1, 0, 4), OUTSIDE);
        Check.due("13 word", x.edition(0, 2, 100, 4), OUTSIDE);
        Check.due("13 lane", x.edition(0, 0, 30, 10), OUTSIDE);
        Check.due("13 lane", x.edition(0, 2, 10, -1), OUTSIDE);
        Check.due("13 not started", x.edition(2, 3, 0, 0), NO);
        Check.due("13 outside ahead of not started", x.edition(2, 0, 0, 0), OUTSIDE);
        Check.due("13 add what is there", x.edition(0, 0, 10, 4), NO);
        Check.due("13 drop what is not", x.edition(0, 1, 11, 4), NO);
        Check.due("13 change what is not", x.edition(0, 2, 11, 4), NO);
        Check.due("13 none so far", x.info(0, 2), 0);
        Check.due("13 add", x.edition(0, 0, 30, 5), 1);
        Check.due("13 three", x.info(0, 1), 3);
        Check.due("13 reverse, word and lane not looked at", x.edition(0, 3, -7, 77), 2);
        Check.due("13 change", x.edition(0, 2, 10, 7), 3);
        Check.due("13 newest", x.info(0, 2), 3);
        Check.due("13 the elder one is as it was", x.part(0, 0), 5);
        Check.due("13 made of an elder one", x.of(0, 1), 0);
        x.give(0, 5, 1);
        x.give(2, 4, 2);
        int v = x.make(0);
        Check.due("13 made of the newest", x.of(v, 1), 3);
        Check.shown("13 shown", x, v, "0(30=1,20=!,10=" + Double.doubleToLongBits(2.0) + ")");
        Check.due("13 full", x.edition(0, 1, 30, 0), FULL);
        Check.due("13 no ahead of full", x.edition(0, 1, 31, 0), NO);
    }

    private static void promise13OfConstants() {
        RecordBridge x = withStarted();
        int made = x.told(3);
        Check.due("13 change of constants", x.edition(1, 2, 10, 4), NO);
        Check.due("13 its word is looked at", x.edition(1, 2, 100, 4), OUTSIDE);
        Check.due("13 drop", x.edition(1, 1, 10, -9), 1);
        Check.due("13 gone", x.named(1, 10), NO);
        Check.due("13 stays a value", x.of(1, 4), 10);
        Check.due("13 add, whatever lane", x.edition(1, 0, 30, 99), 2);
        Check.due("13 made then", x.told(3), made + 1);
        Check.due("13 made then", x.info(1, 4), 3);
        Check.due("13 named", x.named(1, 30), made);
        Check.due("13 of its edition", x.of(made, 1), 2);
        Check.due("13 the third", x.of(made, 3), 2);
        Check.due("13 reverse", x.edition(1, 3, 0, 0), 3);
        Check.due("13 named still", x.named(1, 30), made);
        Check.due("13 named still", x.named(1, 20), 2);
        Check.due("13 full", x.edition(1, 3, 0, 0), FULL);
    }

    private static void promise13Full() {
        RecordBridge x = new RecordBridge();
        x.record(0);
        for (int i = 1; i <= 6; i++) {
            x.more(0, i, 8);
        }
        x.make(0);
        Check.due("13 parts are full", x.edition(0, 0, 7, 4), FULL);
        Check.due("13 drop one", x.edition(0, 1, 3, 4), 1);
        Check.due("13 five", x.info(0, 1), 5);
        Check.due("13 room again", x.edition(0, 0, 7, 4), 2);
        x.constants(0);
        for (int i = 1; i <= 8; i++) {
            x.more(1, i, 0);
        }
        x.named(1, 1);
        Check.due("13 constants are full", x.edition(1, 0, 9, 4), FULL);
        x.record(0);
        while (x.told(3) < 200) {
            x.make(2);
        }
        x.edition(1, 1, 8, 0);
        Check.due("13 values are full", x.edition(1, 0, 9, 4), FULL);
        Check.due("13 but drop", x.edition(1, 1, 7, 0), 2);
    }

    private static void promise14() {
        RecordBridge x = new RecordBridge();
        Check.due("14 a bit of none", x.family(1, true), OUTSIDE);
        x.record(0);
        x.constants(0);
        Check.due("14 a bit of none", x.family(4, true), OUTSIDE);
        Check.due("14 the highest bit", x.family(Integer.MIN_VALUE, true), OUTSIDE);
        Check.due("14 all bits", x.family(-1, true), OUTSIDE);
        for (int i = 0; i < 8; i++) {
            Check.due("14 family", x.family(i % 4, i % 2 == 0), i);
        }
        Check.due("14 full", x.family(3, true), FULL);
        Check.due("14 outside ahead", x.family(4, true), OUTSIDE);
        Check.due("14 told", x.told(2), 8);
        for (int i = 2; i < 16; i++) {
            x.record(0);
        }
        Check.due("14 bit 15 is known, 16 is not", x.family(1 << 16, false), OUTSIDE);
        Check.due("14 bit 15 is known", x.family(1 << 15, false), FULL);
    }

    private static void promise15() {
        RecordBridge x = withStarted();
        x.record(2);
        Check.due("15 record", x.info(0, 0), 0);
        Check.due("15 constants", x.info(1, 0), 1);
        Check.due("15 parts", x.info(0, 1), 2);
        Check.due("15 edition", x.info(0, 2), 0);
        Check.due("15 started", x.info(1, 3), 1);
        Check.due("15 not started", x.info(2, 3), 0);
        Check.due("15 made", x.info(0, 4), 1);
        Check.due("15 made", x.info(1, 4), 2);
        Check.due("15 none made", x.info(2, 4), 0);
        Check.due("15 outside", x.info(0, 5), OUTSIDE);
        Check.due("15 outside", x.info(0, -1), OUTSIDE);
        Check.due("15 unknown ahead", x.info(3, 5), UNKNOWN);
        Check.due("15 unknown", x.info(-1, 0), UNKNOWN);
    }
}
