import java.util.ArrayList;
import java.util.List;
import java.util.Random;

/**
 * Runs of 512 calls, as long as the document lets an object be used, drawn by chance from a fixed seed, on RecordBridge
 * and on Model: all answers are alike.
 */
public final class ModelTest {
    private static final int RUNS = 10000, CALLS = 512, LAST_CALLS = 8;
    private static final long[] NUMBERS = {
        0, 1, -1, 2, 3, 127, 128, -129, 255, 32768, 65535, 65536, -32769, 16777217, -16777219, 2147483648L,
        9007199254740993L, Long.MAX_VALUE, Long.MIN_VALUE,
    };
    private static final int[] ODD = {-1, -2, -5, 6, 10, 20, 21, 60, 99, 100, 200, Integer.MAX_VALUE, Integer.MIN_VALUE};
    private static final String[] OFTEN = {
        "row", "put", "get", "lay", "at", "length", "copy", "twin", "record", "constants", "more", "more", "edition",
        "edition", "family", "info", "give", "give", "hand", "hand", "make", "make", "build", "build", "build", "build",
        "fill", "named", "named", "part", "accessor", "of", "array", "match", "equal", "order", "order", "hash",
        "weight", "show", "byteAt", "carry", "carry", "trace", "fault", "told",
    };

    private final Random random;
    private final Model model = new Model();
    private final RecordBridge bridge = new RecordBridge();
    private final List<String> log = new ArrayList<>();
    /** How likely a wholly odd number is, and how many ordinary rows, values: runs differ in these. */
    private final int oddness;
    private final int thrift;
    private boolean isWrong;
    private int calls;

    private ModelTest(long seed) {
        random = new Random(seed);
        oddness = 1 + random.nextInt(12);
        thrift = random.nextInt(6);
    }

    public static void main(String[] args) {
        int runs = args.length > 0 ? Integer.parseInt(args[0]) : RUNS;
        int wrongRuns = 0;
        java.util.Map<String, Integer> seen = new java.util.TreeMap<>();
        for (int run = 0; run < runs && wrongRuns < 3; run++) {
            ModelTest test = new ModelTest(run);
            test.go(seen);
            if (test.isWrong) {
                wrongRuns++;
                System.out.println("run " + run + " is wrong in its last call:");
                test.log.forEach(System.out::println);
            }
        }
        Check.due("wrong runs", wrongRuns, 0);
        // fewer runs may well miss what is rare
        if (runs >= RUNS) {
            wasSeen(seen);
        }
        if (args.length > 0) {
            seen.forEach((k, n) -> System.out.println(k + " " + n));
        }
        Check.end();
    }

    /** The runs are worth little if they never come to what is hard to come to. */
    private static void wasSeen(java.util.Map<String, Integer> seen) {
        String[] wanted = {
            "make -4", "make -11", "make -13", "make -15", "carry -4", "carry -13", "carry -15", "carry -3", "show -4",
            "named -4", "named -3", "edition -4", "edition -3", "edition 3", "array -11", "array -4", "copy -12",
            "lay -3", "match -3", "match -5", "equal 1", "equal 0", "order -101", "order -99", "order -100", "row -4",
        };
        for (String key : wanted) {
            Check.isTrue("the runs never came to " + key, seen.getOrDefault(key, 0) > 0);
        }
    }

    /** Some runs begin with little room left, so that they come to FULL. */
    private void crowd(java.util.Map<String, Integer> seen) {
        int rows = random.nextInt(4) == 0 ? 45 + random.nextInt(15) : 0;
        for (int i = 0; i < rows && hasMore(); i++) {
            look(seen, "row", random.nextInt(9), random.nextInt(5));
        }
        int values = random.nextInt(4) == 0 ? 170 + random.nextInt(30) : 0;
        if (values > 0) {
            look(seen, "record", 0);
        }
        for (int i = 0; i < values && hasMore(); i++) {
            look(seen, "make", 0);
        }
    }

    private void go(java.util.Map<String, Integer> seen) {
        crowd(seen);
        while (hasMore()) {
            String name = OFTEN[random.nextInt(OFTEN.length)];
            if (name.equals("build")) {
                build(seen);
            } else if (name.equals("fill")) {
                fill(seen);
            } else {
                lookOnce(seen, name);
            }
        }
        lookAtTheEnd(seen);
    }

    private void lookOnce(java.util.Map<String, Integer> seen, String name) {
        boolean isKind = name.equals("record") || name.equals("constants");
        boolean isNew = isKind || name.equals("row") || name.equals("twin");
        if (isNew && random.nextInt(1 + thrift) > 0) {
            return;
        }
        int kinds = model.kinds.size();
        look(seen, name, arguments(name));
        if (isKind && model.kinds.size() > kinds) {
            addParts(seen);
        }
    }

    private boolean hasMore() {
        return !isWrong && calls < CALLS - LAST_CALLS;
    }

    /** What is told behind all calls: a state that went wrong unseen is seen here. */
    private void lookAtTheEnd(java.util.Map<String, Integer> seen) {
        for (int what = 0; what < LAST_CALLS && !isWrong; what++) {
            if (what < 6) {
                look(seen, "told", what);
            } else {
                look(seen, what == 6 ? "trace" : "fault");
            }
        }
    }

    private void look(java.util.Map<String, Integer> seen, String name, long... a) {
        calls++;
        long want = model.call(name, a);
        long got;
        try {
            got = call(name, a);
        } catch (RuntimeException e) {
            log.add("threw " + e);
            isWrong = true;
            got = want;
        }
        log.add(name + java.util.Arrays.toString(a) + " answered " + got + (got == want ? "" : ", due is " + want));
        isWrong |= got != want;
        seen.merge(name + " " + (want >= -101 && want <= 9 ? want : 10), 1, Integer::sum);
        if (name.equals("show") && hasMore()) {
            look(seen, "byteAt", model.shown.length() - random.nextInt(3));
        }
    }

    /** The newest kind gets parts before it starts, most of them the same few words. */
    private void addParts(java.util.Map<String, Integer> seen) {
        int kind = model.kinds.size() - 1;
        int count = random.nextInt(9);
        for (int i = 0; i < count && kind >= 0 && hasMore(); i++) {
            int lane = random.nextInt(3) == 0 ? 8 + random.nextInt(2) : near(10);
            look(seen, "more", kind, i < 2 ? i + 1 : word(), lane);
        }
    }

    /** A tray that fits, mostly, and then make(); of CONSTANTS one that is there, mostly. */
    private void build(java.util.Map<String, Integer> seen) {
        if (model.kinds.isEmpty()) {
            return;
        }
        int kind = random.nextInt(model.kinds.size());
        List<Model.P> shape = model.kinds.get(kind).newest();
        if (model.kinds.get(kind).enumLike && !shape.isEmpty() && random.nextInt(8) > 0) {
            look(seen, "named", kind, shape.get(random.nextInt(shape.size())).label());
            return;
        }
        for (int k = 0; k < shape.size() && k < 6 && hasMore(); k++) {
            int lane = shape.get(k).lane();
            if (lane < 8) {
                look(seen, "give", k, random.nextInt(4) == 0 ? Math.max(0, lane - 1) : lane, number());
            } else if (random.nextInt(5) > 0) {
                int count = lane == 8 ? model.values.size() : model.rows.size();
                look(seen, "hand", k, near(count), lane - 8);
            }
        }
        if (hasMore()) {
            look(seen, "make", kind);
        }
    }

    /** A row of things, filled with the newest values, for SIZE and DEEP to grow. */
    private void fill(java.util.Map<String, Integer> seen) {
        for (int row = 0; row < model.rows.size(); row++) {
            Model.R r = model.rows.get(row);
            if (random.nextInt(3) > 0 && r.lane == 8 && !r.kept && !model.values.isEmpty()) {
                int least = random.nextInt(4) == 0 ? 20 : 4;
                for (int i = 0; i < r.n() && i < least && hasMore(); i++) {
                    look(seen, "lay", row, i, model.values.size() - 1 - random.nextInt(Math.min(3, model.values.size())));
                }
                return;
            }
        }
    }

    private int near(int count) {
        if (random.nextInt(100) < oddness || count == 0) {
            return random.nextInt(3) == 0 ? count : ODD[random.nextInt(ODD.length)];
        }
        return random.nextInt(3) == 0 ? Math.max(0, count - 1 - random.nextInt(4)) : random.nextInt(count);
    }

    private long number() {
        return random.nextInt(3) == 0 ? random.nextLong() >> random.nextInt(64) : NUMBERS[random.nextInt(NUMBERS.length)];
    }

    private long[] arguments(String name) {
        int row = near(model.rows.size());
        int kind = near(model.kinds.size());
        int value = near(model.values.size());
        switch (name) {
            case "row": return new long[] {random.nextInt(3) == 0 ? 8 : near(9), near(random.nextInt(3) == 0 ? 21 : 4)};
            case "put": return new long[] {row, near(5), near(8), number()};
            case "get": return new long[] {row, near(5), near(8)};
            case "lay": return new long[] {row, near(4), random.nextInt(8) == 0 ? -1 : value};
            case "at": return new long[] {row, near(4)};
            case "length": return new long[] {row, near(3)};
            case "copy": return new long[] {row, near(4), near(model.rows.size()), near(4), near(4)};
            case "twin": return new long[] {row};
            case "record": return new long[] {near(5)};
            case "constants": return new long[] {near(4)};
            case "more": return new long[] {kind, word(), near(10)};
            case "edition": return new long[] {kind, near(4), word(), near(10)};
            case "family": return new long[] {random.nextInt(8) == 0 ? near(1 << 16) : bits(), random.nextInt(2)};
            case "info": return new long[] {kind, near(5)};
            case "give": return new long[] {near(6), near(8), number()};
            case "hand": return hand();
            case "make": return new long[] {kind};
            case "named": return new long[] {kind, word()};
            case "part": return new long[] {value, near(4)};
            case "accessor": return new long[] {value, word()};
            case "of": return new long[] {value, near(6)};
            case "array": return new long[] {value, near(5), random.nextInt(2)};
            case "match": return new long[] {near(model.families.size()), value};
            case "equal": case "order": return new long[] {value, near(model.values.size())};
            case "hash": case "weight": case "show": case "carry": return new long[] {value};
            case "byteAt": return new long[] {near(model.shown.length())};
            case "told": return new long[] {near(6)};
            default: return new long[0];
        }
    }

    private long[] hand() {
        boolean isRow = random.nextBoolean();
        int number = random.nextInt(5) == 0 ? -1 : near(isRow ? model.rows.size() : model.values.size());
        return new long[] {near(6), number, isRow ? 1 : 0};
    }

    private int bits() {
        return random.nextInt(1 << model.kinds.size());
    }

    private int word() {
        return random.nextInt(20) == 0 ? near(100) : 1 + random.nextInt(9);
    }

    private long call(String name, long[] a) {
        RecordBridge x = bridge;
        int p = a.length > 0 ? (int) a[0] : 0;
        int q = a.length > 1 ? (int) a[1] : 0;
        int r = a.length > 2 ? (int) a[2] : 0;
        switch (name) {
            case "row": return x.row(p, q);
            case "put": return x.put(p, q, r, a[3]);
            case "get": return x.get(p, q, r);
            case "lay": return x.lay(p, q, r);
            case "at": return x.at(p, q);
            case "length": return x.length(p, q);
            case "copy": return x.copy(p, q, r, (int) a[3], (int) a[4]);
            case "twin": return x.twin(p);
            case "record": return x.record(p);
            case "constants": return x.constants(p);
            case "more": return x.more(p, q, r);
            case "edition": return x.edition(p, q, r, (int) a[3]);
            case "family": return x.family(p, q != 0);
            case "info": return x.info(p, q);
            case "give": return x.give(p, q, a[2]);
            case "hand": return x.hand(p, q, r != 0);
            case "make": return x.make(p);
            case "named": return x.named(p, q);
            case "part": return x.part(p, q);
            case "accessor": return x.accessor(p, q);
            case "of": return x.of(p, q);
            case "array": return x.array(p, q, r != 0);
            case "match": return x.match(p, q);
            case "equal": return x.equal(p, q);
            case "order": return x.order(p, q);
            case "hash": return x.hash(p);
            case "weight": return x.weight(p);
            case "show": return x.show(p);
            case "byteAt": return x.byteAt(p);
            case "carry": return x.carry(p);
            case "trace": return x.trace();
            case "fault": return x.fault();
            default: return x.told(p);
        }
    }
}
