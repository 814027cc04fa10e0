import java.nio.charset.StandardCharsets;

/** What the tests share: objects with a tape, and a tally of the answers that are not as due. */
final class Bench {
    private int wrong;

    /** A call that may throw. */
    interface Call {
        long answer();
    }

    /** A new object with the text's characters, one byte each, on its tape. */
    static SheetObjects load(String text) {
        SheetObjects x = new SheetObjects();
        lay(x, text);
        return x;
    }

    /** The tape becomes the text. */
    static void lay(SheetObjects x, String text) {
        x.cut(0);
        append(x, text);
    }

    static void append(SheetObjects x, String text) {
        int before = x.count(0);
        byte[] bytes = text.getBytes(StandardCharsets.ISO_8859_1);
        for (int at = 0; at < bytes.length; at += 20) {
            x.feed(four(bytes, at), four(bytes, at + 4), four(bytes, at + 8), four(bytes, at + 12),
                    four(bytes, at + 16));
        }
        x.cut(before + bytes.length);
    }

    private static int four(byte[] bytes, int from) {
        int sum = 0;
        for (int i = 0; i < 4; i++) {
            sum = sum << 8 | (from + i < bytes.length ? bytes[from + i] & 255 : 32);
        }
        return sum;
    }

    /** All that was written last. */
    static String writing(SheetObjects x) {
        StringBuilder text = new StringBuilder();
        for (int i = 0; x.written(i) != SheetObjects.NONE; i++) {
            text.append((char) x.written(i));
        }
        return text.toString();
    }

    /** What a node is written as. */
    static String writing(SheetObjects x, int node) {
        x.write(node);
        return writing(x);
    }

    /** The bytes of a string or name. */
    static String bytes(SheetObjects x, int node) {
        StringBuilder text = new StringBuilder();
        for (int i = 0; x.byteAt(node, i) != SheetObjects.NONE; i++) {
            text.append((char) x.byteAt(node, i));
        }
        return text.toString();
    }

    void due(String what, long got, long want) {
        if (got != want) {
            tell(what, Long.toString(got), Long.toString(want));
        }
    }

    void due(String what, String got, String want) {
        if (!got.equals(want)) {
            tell(what, got, want);
        }
    }

    void due(String what, boolean got, boolean want) {
        due(what, got ? 1 : 0, want ? 1 : 0);
    }

    void outOfBounds(String what, Call call) {
        due(what, outcome(call), "IndexOutOfBoundsException");
    }

    void illegal(String what, Call call) {
        due(what, outcome(call), "IllegalArgumentException");
    }

    private static String outcome(Call call) {
        try {
            return Long.toString(call.answer());
        } catch (RuntimeException e) {
            return e.getClass().getSimpleName();
        }
    }

    private void tell(String what, String got, String want) {
        wrong++;
        System.out.println(what + ": answered " + got + ", due is " + want);
    }

    /** Ends the test: exit code 1 if an answer was not as due. */
    void end() {
        System.out.println(wrong == 0 ? "all answers are as due" : wrong + " answers are not as due");
        if (wrong != 0) {
            System.exit(1);
        }
    }
}
