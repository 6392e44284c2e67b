/** KINDS told at one stroke, for the tests that need some. */
final class Kinds {
    private Kinds() {
    }

    /** A RECORD kind with PARTS of these LANES, their LABELS from 1 on. */
    static int addKind(RecordBridge x, int rule, int... lanes) {
        int kind = x.record(rule);
        for (int i = 0; i < lanes.length; i++) {
            x.more(kind, i + 1, lanes[i]);
        }
        return kind;
    }

    static int addConstants(RecordBridge x, int body, int... labels) {
        int kind = x.constants(body);
        for (int label : labels) {
            x.more(kind, label, 0);
        }
        return kind;
    }
}
