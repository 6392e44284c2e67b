/** Promises 16 to 19: the tray, makers and their rules, constants. */
public final class MakingTest {
    private static final int UNKNOWN = RecordBridge.UNKNOWN, OUTSIDE = RecordBridge.OUTSIDE, NO = RecordBridge.NO;
    private static final int FULL = RecordBridge.FULL, NONE = RecordBridge.NONE;
    private static final long LOST = RecordBridge.LOST;
    private static final int NULL = -11, CAST = -13, THROWN = -15;

    public static void main(String[] args) {
        promises16And17();
        makeFaults();
        makeClearsTheTray();
        makeTwins();
        ruleOne();
        ruleTwo();
        ruleThree();
        ruleFour();
        twinsAreFull();
        sizeIsFull();
        deepIsFull();
        valuesAreFull();
        promise19();
        promise19Full();
        Check.end();
    }

    private static RecordBridge with(int rule, int... lanes) {
        RecordBridge x = new RecordBridge();
        Kinds.addKind(x, rule, lanes);
        return x;
    }

    private static void promises16And17() {
        RecordBridge x = with(0, 4);
        x.row(4, 1);
        Check.due("16 k -1", x.give(-1, 4, 0), OUTSIDE);
        Check.due("16 k 6", x.give(6, 4, 0), OUTSIDE);
        Check.due("16 lane -1", x.give(0, -1, 0), OUTSIDE);
        Check.due("16 lane 8", x.give(0, 8, 0), OUTSIDE);
        Check.due("16 give", x.give(5, 7, 0), 1);
        Check.due("16 comes to the lane given", x.give(0, 1, 200), 1);
        Check.due("16 make", x.make(0), 0);
        Check.due("16 part", x.part(0, 0), -56);
        Check.due("17 no value", x.hand(9, 1, false), UNKNOWN);
        Check.due("17 no row", x.hand(0, 1, true), UNKNOWN);
        Check.due("17 -2", x.hand(0, -2, true), UNKNOWN);
        Check.due("17 k 6", x.hand(6, 0, true), OUTSIDE);
        Check.due("17 k -1, nothing", x.hand(-1, -1, false), OUTSIDE);
        Check.due("17 value", x.hand(0, 0, false), 1);
        Check.due("17 a value there", x.make(0), CAST);
        Check.due("17 row", x.hand(0, 0, true), 1);
        Check.due("17 a row there", x.make(0), CAST);
        Check.due("17 nothing", x.hand(0, -1, true), 1);
        Check.due("17 nothing there", x.make(0), NULL);
    }

    private static void makeFaults() {
        RecordBridge x = with(0, 4, 8, 9);
        x.row(4, 1);
        x.constants(0);
        Check.due("18 unknown", x.make(2), UNKNOWN);
        Check.due("18 unknown", x.make(-1), UNKNOWN);
        Check.due("18 constants", x.make(1), NO);
        Check.due("18 trace", x.trace(), 0);
        x.hand(1, 0, true);
        Check.due("18 part by part: nothing first", x.make(0), NULL);
        Check.due("18 it has started all the same", x.info(0, 3), 1);
        Check.due("18 trace", x.trace(), 100);
        Check.due("18 no value came of it", x.told(3), 0);
        x.give(0, 5, 1);
        Check.due("18 a long for an int", x.make(0), CAST);
        x.give(0, 0, 1);
        Check.due("18 a truth for an int", x.make(0), CAST);
        x.give(0, 3, 1);
        Check.due("18 a row for a thing", x.make(0), CAST);
        x.give(1, 4, 0);
        Check.due("18 a number for a thing", x.make(0), CAST);
        x.hand(1, -1, false);
        x.give(2, 4, 0);
        Check.due("18 a number for a row", x.make(0), CAST);
        x.hand(2, -1, false);
        Check.due("18 nothing for things and rows", x.make(0), 0);
        Check.due("18 nothing", x.part(0, 1), NONE);
        Check.due("18 nothing", x.part(0, 2), NONE);
        x.give(0, 4, 1);
        x.hand(2, 0, false);
        Check.due("18 a value for a row", x.make(0), CAST);
        Check.due("18 it starts but once", x.trace(), 100);
        Check.due("18 faults", x.told(5), 7);
    }

    private static void makeClearsTheTray() {
        RecordBridge x = with(1, 4, 4);
        int one = Kinds.addKind(x, 0, 4);
        x.give(0, 4, 2);
        x.give(1, 4, 1);
        x.give(5, 4, 9);
        Check.due("18 thrown", x.make(0), THROWN);
        x.give(0, 4, 1);
        Check.due("18 a refusal leaves the tray", x.make(0), 0);
        Check.due("18 then it holds nothing", x.make(one), NULL);
        x.give(0, 4, 1);
        Check.due("18 as before", x.make(one), 1);
        x.record(0);
        for (int i = 1; i <= 6; i++) {
            x.more(2, i, 8);
        }
        Check.due("18 place 5 holds nothing either", x.make(2), 2);
    }

    private static void makeTwins() {
        RecordBridge x = with(0, 9, 9, 9);
        x.row(8, 1);
        x.row(4, 1);
        x.hand(0, 0, true);
        x.hand(1, 1, true);
        x.hand(2, 0, true);
        Check.due("18 make", x.make(0), 0);
        Check.due("18 two twins", x.told(0), 4);
        Check.due("18 the first", x.part(0, 0), 2);
        Check.due("18 itself", x.part(0, 1), 1);
        Check.due("18 the second", x.part(0, 2), 3);
        Check.due("18 kept", x.length(2, 2) + x.length(3, 2), 2);
        Check.due("18 not kept", x.length(0, 2) + x.length(1, 2), 0);
        x.hand(0, 2, true);
        Check.due("18 make", x.make(0), 1);
        Check.due("18 a kept one as it is", x.part(1, 0), 2);
        Check.due("18 no twins", x.told(0), 4);
        x.put(1, 0, 4, 6);
        Check.shown("18 a row of numbers is shared", x, 0, "0(1=[!],2=[6],3=[!])");
    }

    private static int makePair(RecordBridge x, int kind, int laneA, long a, int laneB, long b) {
        x.give(0, laneA, a);
        x.give(1, laneB, b);
        return x.make(kind);
    }

    private static void ruleOne() {
        RecordBridge x = with(1, 1, 5);
        Check.due("18 rule 1 rising", makePair(x, 0, 1, -1, 5, 0), 0);
        Check.due("18 rule 1 alike", makePair(x, 0, 1, 7, 5, 7), 1);
        Check.due("18 rule 1 greater", makePair(x, 0, 1, 7, 5, 6), THROWN);
        Check.due("18 fault", x.fault(), 5);
        int floats = Kinds.addKind(x, 1, 5, 6);
        Check.due("18 rule 1 not of floats", makePair(x, floats, 5, 9, 6, 1), 2);
        int truths = Kinds.addKind(x, 1, 0, 4);
        Check.due("18 rule 1 not of truths", makePair(x, truths, 0, 1, 4, 0), 3);
        int single = Kinds.addKind(x, 1, 4);
        x.give(0, 4, 3);
        Check.due("18 rule 1 of one part", x.make(single), 4);
        Check.due("18 rule 1 of none", x.make(Kinds.addKind(x, 1)), 5);
        int signs = Kinds.addKind(x, 1, 2, 3);
        Check.due("18 rule 1 sign above short", makePair(x, signs, 2, -1, 3, -1), THROWN);
    }

    private static void ruleTwo() {
        RecordBridge x = with(2, 1, 5);
        Check.due("18 rule 2 rising", makePair(x, 0, 1, 1, 5, 300), 0);
        Check.due("18 rule 2 stays", x.part(0, 0), 1);
        Check.due("18 rule 2 greater", makePair(x, 0, 1, 5, 5, -300), 1);
        Check.due("18 rule 2 cut", x.part(1, 0), -44);
        Check.due("18 rule 2 widened", x.part(1, 1), 5);
        int signs = Kinds.addKind(x, 2, 2, 3);
        Check.due("18 rule 2 of signs", makePair(x, signs, 2, 40000, 3, -1), 2);
        Check.due("18 rule 2 a short cut to a sign", x.part(2, 0), 65535);
        Check.due("18 rule 2 a sign cut to a short", x.part(2, 1), -25536);
        int floats = Kinds.addKind(x, 2, 4, 7);
        Check.due("18 rule 2 not of doubles", makePair(x, floats, 4, 9, 7, 1), 3);
        Check.due("18 rule 2 not exchanged", x.part(3, 0), 9);
    }

    private static void ruleThree() {
        RecordBridge x = with(3, 4, 8, 9);
        x.row(4, 0);
        x.give(0, 4, -1);
        x.hand(2, 0, true);
        Check.due("18 rule 3 no thing", x.make(0), THROWN);
        int plain = Kinds.addKind(x, 0);
        x.hand(2, -1, true);
        Check.due("18 a thing", x.make(plain), 0);
        x.give(0, 4, -1);
        x.hand(1, 0, false);
        Check.due("18 rule 3 no row", x.make(0), THROWN);
        x.hand(2, 0, true);
        Check.due("18 rule 3 whole", x.make(0), 1);
        Check.due("18 rule 3 -1 is a number", x.part(1, 0), -1);
        Check.due("18 no twins", x.told(0), 1);
    }

    private static void ruleFour() {
        RecordBridge x = with(4, 9, 9);
        x.row(4, 1);
        x.row(8, 1);
        x.put(0, 0, 4, 5);
        x.hand(0, 0, true);
        x.hand(1, 1, true);
        Check.due("18 rule 4", x.make(0), 0);
        Check.due("18 rule 4 twin", x.part(0, 0), 2);
        Check.due("18 rule 4 twin", x.part(0, 1), 3);
        Check.due("18 rule 4 a twin of numbers is not kept", x.length(2, 2), 0);
        Check.due("18 rule 4 a twin of things is", x.length(3, 2), 1);
        x.put(0, 0, 4, 6);
        Check.due("18 rule 4 cells of its own", x.get(2, 0, 4), 5);
        x.hand(0, 2, true);
        x.hand(1, 3, true);
        Check.due("18 rule 4", x.make(0), 1);
        Check.due("18 rule 4 a twin again", x.part(1, 0), 4);
        Check.due("18 rule 4 kept as it is", x.part(1, 1), 3);
    }

    private static void twinsAreFull() {
        RecordBridge x = with(1, 4, 4, 9, 9);
        x.row(8, 0);
        for (int i = 1; i < 59; i++) {
            x.row(4, 0);
        }
        x.give(0, 4, 2);
        x.give(1, 4, 1);
        x.hand(2, 0, true);
        x.hand(3, 0, true);
        Check.due("18 twins are full ahead of the rule", x.make(0), FULL);
        Check.due("18 none was made", x.told(0), 59);
        x.hand(3, -1, true);
        Check.due("18 room for one, then the rule", x.make(0), THROWN);
        Check.due("18 none was made", x.told(0), 59);
        x.give(1, 4, 2);
        Check.due("18 made", x.make(0), 0);
        Check.due("18 the last row", x.part(0, 2), 59);
    }

    private static void sizeIsFull() {
        RecordBridge x = with(0);
        int pair = Kinds.addKind(x, 0, 9, 9, 8);
        x.make(0);
        x.row(8, 20);
        for (int i = 0; i < 20; i++) {
            x.lay(0, i, 0);
        }
        x.hand(0, 0, true);
        x.hand(1, 0, true);
        Check.due("18 a size of 41", x.make(pair), 1);
        Check.due("18 size", x.of(1, 2), 41);
        Check.due("18 deep", x.of(1, 5), 2);
        x.row(8, 8);
        for (int i = 0; i < 7; i++) {
            x.lay(3, i, 1);
        }
        for (int i = 0; i < 11; i++) {
            x.lay(0, i, -1);
        }
        x.hand(0, 3, true);
        x.hand(1, 0, true);
        x.hand(2, -1, false);
        Check.due("18 1, 287 and 9", x.make(pair), 2);
        Check.due("18 size", x.of(2, 2), 297);
        x.row(8, 2);
        x.lay(6, 0, 0);
        x.lay(6, 1, 0);
        x.hand(0, 6, true);
        x.hand(2, 2, false);
        Check.due("18 a size of 300", x.make(pair), 3);
        Check.due("18 size", x.of(3, 2), 300);
        x.row(8, 1);
        int single = x.told(0) - 1;
        x.lay(single, 0, 0);
        int rows = x.told(0);
        x.hand(0, 6, true);
        x.hand(1, single, true);
        x.hand(2, 2, false);
        Check.due("18 a size of 301", x.make(pair), FULL);
        Check.due("18 no twins came of it", x.told(0), rows);
        Check.due("18 no fault came of it", x.told(5), 0);
        x.hand(2, -1, false);
        Check.due("18 the tray is as it was", x.make(pair), 4);
        Check.due("18 size", x.of(4, 2), 4);
    }

    private static void deepIsFull() {
        RecordBridge x = with(0, 8);
        Check.due("18 deep 1", x.make(0), 0);
        for (int i = 1; i < 8; i++) {
            x.hand(0, i - 1, false);
            Check.due("18 deeper", x.make(0), i);
            Check.due("18 deep", x.of(i, 5), i + 1);
            Check.due("18 size", x.of(i, 2), i + 1);
        }
        x.hand(0, 7, false);
        Check.due("18 deep 9", x.make(0), FULL);
        Check.due("18 none came of it", x.told(3), 8);
    }

    private static void valuesAreFull() {
        RecordBridge x = with(0);
        for (int i = 0; i < 200; i++) {
            Check.due("18 values", x.make(0), i);
        }
        Check.due("18 full", x.make(0), FULL);
        int other = Kinds.addKind(x, 0, 4);
        Check.due("18 full ahead of faults", x.make(other), FULL);
        Check.due("18 it has not started", x.info(other, 3), 0);
        Check.due("18 of constants ahead of full", x.make(x.constants(0)), NO);
    }

    private static void promise19() {
        RecordBridge x = with(0, 4);
        x.constants(0);
        x.more(1, 7, 0);
        x.more(1, 5, 0);
        x.more(1, 6, 0);
        Check.due("19 unknown", x.named(2, 7), UNKNOWN);
        Check.due("19 of records", x.named(0, 1), NO);
        Check.due("19 no such label", x.named(1, 8), NO);
        Check.due("19 no such label", x.named(1, 0), NO);
        Check.due("19 not started by that", x.info(1, 3), 0);
        Check.due("19 named", x.named(1, 5), 1);
        Check.due("19 trace", x.trace(), 101);
        Check.due("19 all are made", x.told(3), 3);
        Check.due("19 the same", x.named(1, 5), 1);
        Check.due("19 in their order", x.named(1, 7), 0);
        Check.due("19 in their order", x.named(1, 6), 2);
        Check.due("19 no more are made", x.told(3), 3);
        Check.due("19 trace", x.trace(), 101);
        Check.due("19 label", x.of(2, 4), 6);
        Check.due("19 size", x.of(2, 2), 1);
        Check.due("19 deep", x.of(2, 5), 1);
        Check.due("19 no parts", x.part(0, 0), LOST);
        Check.due("19 records do not start so", x.info(0, 3), 0);
    }

    private static void promise19Full() {
        RecordBridge x = with(0);
        x.constants(0);
        x.more(1, 1, 0);
        x.more(1, 2, 0);
        for (int i = 0; i < 199; i++) {
            x.make(0);
        }
        Check.due("19 room for one of two", x.named(1, 1), FULL);
        Check.due("19 not started", x.info(1, 3), 0);
        Check.due("19 no such label ahead of full", x.named(1, 3), NO);
        Check.due("19 trace", x.trace(), 100);
        x.constants(0);
        x.more(2, 1, 0);
        Check.due("19 room for the one", x.named(2, 1), 199);
        Check.due("19 full, but it has started", x.named(2, 1), 199);
    }
}
