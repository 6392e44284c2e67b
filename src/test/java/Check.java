/** Counts answers that are not as due, and ends a test with exit code 1 if there was one. */
final class Check {
    private static int wrong = 0;
    private static int looked = 0;

    private Check() {
    }

    static void due(String call, long got, long want) {
        looked++;
        if (got != want) {
            wrong++;
            if (wrong <= 40) {
                System.out.println(call + " answered " + got + ", due is " + want);
            }
        }
    }

    static void isTrue(String what, boolean isSo) {
        due(what, isSo ? 1 : 0, 1);
    }

    /** What is SHOWN, as a text; the length is looked at too. */
    static void shown(String call, RecordBridge x, int value, String want) {
        due(call + " length", x.show(value), want.length());
        StringBuilder got = new StringBuilder();
        for (int i = 0; x.byteAt(i) != RecordBridge.NONE; i++) {
            got.append((char) x.byteAt(i));
        }
        isTrue(call + " shows " + got + ", due is " + want, want.contentEquals(got));
    }

    static void end() {
        if (wrong != 0) {
            System.out.println(wrong + " of " + looked + " answers are not as due");
            System.exit(1);
        }
        System.out.println(looked + " answers are as due");
    }
}
