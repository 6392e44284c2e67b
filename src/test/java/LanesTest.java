import java.util.Random;

/** Every LANE against every other, by the machine's own numbers: promises 3, 4, 16, 20, 26, 27. */
public final class LanesTest {
    private static final int[][] WIDER = {
        {0}, {1, 3, 4, 5, 6, 7}, {2, 4, 5, 6, 7}, {3, 4, 5, 6, 7}, {4, 5, 6, 7}, {5, 6, 7}, {6, 7}, {7},
    };
    private static final long[] EDGES = {
        0, 1, -1, 2, 127, 128, -128, -129, 255, 32767, 32768, -32768, -32769, 65535, 65536, 16777215, 16777216,
        16777217, 16777218, 16777219, 16777221, -16777217, 33554431, 33554433, 33554434, 33554435, 2147483647,
        2147483648L, -2147483648L, -2147483649L, 9007199254740991L, 9007199254740992L, 9007199254740993L,
        9007199254740994L, 9007199254740995L, 9007199254740997L, -9007199254740993L, 18014398509481983L,
        Long.MAX_VALUE, Long.MAX_VALUE - 1, Long.MAX_VALUE - 511, Long.MAX_VALUE - 512, Long.MAX_VALUE - 513,
        Long.MIN_VALUE, Long.MIN_VALUE + 1, Long.MIN_VALUE + 1025, 0x7FFFFF8000000000L, 0x7FFFFFBFFFFFFFFFL,
        0x7FFFFFC000000000L, 0x4000004000000000L, 0x400000C000000000L, 0x4000004000000001L,
    };

    public static void main(String[] args) {
        for (long v : EDGES) {
            look(v);
        }
        Random random = new Random(20261118);
        for (int i = 0; i < 20000; i++) {
            look(random.nextLong() >> random.nextInt(64));
        }
        Random pairs = new Random(7);
        for (int i = 0; i < 3000; i++) {
            lookAtOrder(pairs.nextLong() >> pairs.nextInt(64), pairs.nextLong() >> pairs.nextInt(64));
        }
        Check.end();
    }

    private static void look(long v) {
        RecordBridge x = new RecordBridge();
        for (int lane = 0; lane <= 7; lane++) {
            x.row(lane, 1);
        }
        for (int from = 0; from <= 7; from++) {
            Object number = comes(from, v);
            for (int to = 0; to <= 7; to++) {
                String call = v + " from " + from + " to " + to;
                Check.due(call + " put", x.put(to, 0, from, v), isWider(from, to) ? 1 : -13);
                if (isWider(from, to)) {
                    Check.due(call, x.get(to, 0, to), told(widened(number, to)));
                }
            }
            x.put(from, 0, from, v);
            for (int to = 0; to <= 7; to++) {
                long want = isWider(from, to) ? told(widened(number, to)) : RecordBridge.LOST;
                Check.due(v + " get from " + from + " to " + to, x.get(from, 0, to), want);
            }
        }
    }

    private static void lookAtOrder(long a, long b) {
        RecordBridge x = new RecordBridge();
        for (int lane = 6; lane <= 7; lane++) {
            int kind = x.record(0);
            x.more(kind, 1, lane);
            x.give(0, lane, a);
            int first = x.make(kind);
            x.give(0, lane, b);
            int second = x.make(kind);
            int want = lane == 6 ? Float.compare((float) a, (float) b) : Double.compare((double) a, (double) b);
            Check.due("order of " + a + " and " + b + " in " + lane, x.order(first, second), want - 100);
            int bits = lane == 6 ? Float.hashCode((float) a) : Double.hashCode((double) a);
            Check.due("hash of " + a + " in " + lane, x.hash(first), 31 * kind + bits);
        }
    }

    private static boolean isWider(int from, int to) {
        for (int lane : WIDER[from]) {
            if (lane == to) {
                return true;
            }
        }
        return false;
    }

    static Object comes(int lane, long v) {
        switch (lane) {
            case 0: return v % 2 != 0;
            case 1: return (byte) v;
            case 2: return (char) v;
            case 3: return (short) v;
            case 4: return (int) v;
            case 5: return v;
            case 6: return (float) v;
            default: return (double) v;
        }
    }

    private static Object widened(Object number, int lane) {
        if (number instanceof Boolean || lane <= 3) {
            return number;
        }
        if (number instanceof Float f) {
            return lane == 6 ? (Object) f : (Object) (double) f;
        }
        if (number instanceof Double) {
            return number;
        }
        long whole = number instanceof Character c ? c : ((Number) number).longValue();
        return comes(lane, whole);
    }

    private static long told(Object number) {
        if (number instanceof Boolean b) {
            return b ? 1 : 0;
        }
        if (number instanceof Character c) {
            return c;
        }
        if (number instanceof Float f) {
            return Float.floatToIntBits(f);
        }
        if (number instanceof Double d) {
            return Double.doubleToLongBits(d);
        }
        return ((Number) number).longValue();
    }
}
