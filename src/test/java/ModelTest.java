import java.nio.charset.StandardCharsets;

/** All promises: runs of 512 calls, drawn by a fixed rule, answered as the model does. */
public final class ModelTest {
    private static final String[] PIECES = {"[", "]", "<<", ">>", "<", ">", "(", ")", "{", "}", "/",
        "%", "\n", "\r", "\r\n", " ", " ", " ", "\0", "\t", "null", "true", "false", "1", "0", "65535",
        "65536", "8388607", "8388608", "2147483647", "2147483648", "-", "+", ".", ".5", "-1.25",
        "32767.99999", "0.0000076294", "R", " R ", " 0 R ", "1 0 R", "obj", "endobj", "stream",
        "1 0 obj", " endobj", "stream\n", "stream\r\n", "stream\r", "/A", "/B", "/A ", "/#41", "/#00",
        "#", "#4", "\\", "\\n", "\\(", "\\)", "\\1", "\\12", "\\777", "\\\n", "\\\r\n", "(a(b)c)",
        "<41>", "<4 1 4>", "<4x>", "[1 2]", "<</A 1>>", "<</A[1 0 R]/B(x)>>", "[<<>>[]]", "x", "\u00FF",
        "\u0080", "1 0 obj<</A 1/A null>>stream\n", "2 3 obj[1 2 0 R]endobj", "5 0 obj (a) endobj "};
    // Pieces that mostly stand well together, so that long objects are read as well.
    private static final String[] TAME = {"[1 2]", "<</A 1>>", "(a(b)\\)\\051)", "<4 1 4>", " 7 ",
        " -.5 ", " 1 0 R ", "/A", "/B#20", " null ", " true ", "[", "]", "[]", "<<>>", "<</A[", "]>>",
        " 3000000000 ", "%c\n", "<</B 1/B 2/B null>>"};

    private static final String[] STRINGS = {"()", "(a)", "(a(b)c)", "(\\(\\)\\\\)", "(\r\n\r\n)",
        "(\\\r\n\\\n\\\r)", "(\\1\\12\\1234\\8)", "(\\n\\r\\t\\b\\f\\q)", "(%<>[]/{})"};

    private static long seed;
    private static int wrong;

    public static void main(String[] args) {
        for (int run = 1; run <= 1000 && wrong < 20; run++) {
            seed = run * 0x9E3779B97F4A7C15L;
            run(run);
        }
        System.out.println(wrong == 0 ? "all answers are as due" : wrong + " answers are not as due");
        if (wrong != 0) {
            System.exit(1);
        }
    }

    private static int draw(int below) {
        seed = seed * 6364136223846793005L + 1442695040888963407L;
        return (int) ((seed >>> 33) % below);
    }

    private static void run(int run) {
        Used x = new Used();
        Model model = new Model();
        if (run % 100 == 0) {
            fillNodes(run, x, model);
        } else if (run % 100 == 1) {
            fillBytes(run, x, model);
        }
        while (x.left() > 0 && wrong < 20) {
            String text = draw(12) > 0 ? "" : draw(3) == 0 ? text() : sound();
            if (!text.isEmpty() && feedCalls(text) < x.left()) {
                int before = model.count(0);
                feedText(run, x, model, text);
                both(run, draw(2) == 0 ? 3 : 5, x, model, before, 0);
            } else {
                int which = draw(18);
                int[] in = {argument(model), argument(model), draw(2)};
                compare(run, which, in, answer(x, which, in), answer(model, which, in));
            }
        }
    }

    /** Leaves room for 1 to 40 nodes. */
    private static void fillNodes(int run, Used x, Model model) {
        feedText(run, x, model, "[" + "1 ".repeat(395 + draw(4)) + "]");
        for (int i = 0; i < 10; i++) {
            both(run, 3, x, model, 0, 0);
        }
    }

    /** Leaves room for some 30 bytes: a string is written as twice its bytes and read again. */
    private static void fillBytes(int run, Used x, Model model) {
        feedText(run, x, model, "(" + "abcd".repeat(255) + "abc)");
        for (int i = 0; i < 5; i++) {
            both(run, 3, x, model, 0, 0);
            both(run, 14, x, model, 0, 0);
            both(run, 16, x, model, 0, 0);
            both(run, 17, x, model, 0, 0);
            compare(run, 1, new int[0], x.put(0, '('), model.put(0, '('));
            int end = model.count(0) - 1;
            compare(run, 1, new int[0], x.put(end, ')'), model.put(end, ')'));
        }
        both(run, 3, x, model, 0, 0);
        both(run, 14, x, model, 0, 0);
        x.cut(0);
        model.cut(0);
    }

    private static void both(int run, int which, Used x, Model model, int a, int b) {
        int[] in = {a, b, 0};
        compare(run, which, in, answer(x, which, in), answer(model, which, in));
    }

    private static String text() {
        StringBuilder text = new StringBuilder();
        String[] pieces = draw(2) == 0 ? PIECES : TAME;
        int many = draw(draw(8) == 0 ? 120 : 12) + 1;
        for (int i = 0; i < many; i++) {
            text.append(draw(40) == 0 ? String.valueOf((char) draw(256)) : pieces[draw(pieces.length)]);
        }
        if (draw(6) == 0) {
            text.insert(0, "1 0 obj ").append(draw(2) == 0 ? " endobj" : " stream\n");
        }
        if (draw(60) == 0) {
            text.append(draw(2) == 0 ? "[".repeat(draw(103)) : "/" + "x".repeat(126 + draw(3)));
        }
        return text.toString();
    }

    /** An object, or an entry, that can be read, or in which one byte is another. */
    private static String sound() {
        StringBuilder text = new StringBuilder(object(4));
        if (draw(2) == 0) {
            text.insert(0, draw(4) == 0 ? "%\r8388607 65535 obj" : "12 3 obj ");
            text.append(new String[] {" endobj", "stream\n", "stream\r\n"}[draw(3)]);
        }
        if (draw(3) == 0) {
            text.setCharAt(draw(text.length()), "[]<>()/ %#\\0R\n\r\0".charAt(draw(16)));
        }
        return text.toString();
    }

    private static String object(int depth) {
        StringBuilder text = new StringBuilder();
        int many = draw(5);
        switch (depth == 0 ? 6 + draw(6) : draw(12)) {
            case 0:
            case 1:
                for (int i = 0; i < many; i++) {
                    text.append(object(depth - 1)).append(' ');
                }
                return "[" + text + "]";
            case 2:
            case 3:
            case 4:
            case 5:
                for (int i = 0; i < many; i++) {
                    text.append("/").append("ABC".charAt(draw(3))).append(' ');
                    text.append(object(depth - 1));
                }
                return "<<" + text + ">>";
            case 6:
                return draw(9000000) + " " + draw(66000) + " R ";
            case 7:
                return new String[] {" null ", " true ", " false "}[draw(3)];
            case 8:
                return (draw(2) == 0 ? "-" : "") + draw(70000) + "." + draw(2000000000);
            case 9:
                return STRINGS[draw(STRINGS.length)];
            case 10:
                return "<" + "4142 6f5".substring(draw(8)) + ">";
            default:
                return "/" + "A#42#0aC#".substring(draw(9));
        }
    }

    /** How many calls it takes to feed a text and to cut the blanks behind it. */
    private static int feedCalls(String text) {
        return (text.length() + 19) / 20 + 1;
    }

    private static void feedText(int run, Used x, Model model, String text) {
        byte[] bytes = text.getBytes(StandardCharsets.ISO_8859_1);
        for (int at = 0; at < bytes.length; at += 20) {
            int[] fours = new int[5];
            for (int i = 0; i < 20; i++) {
                int b = at + i < bytes.length ? bytes[at + i] & 255 : ' ';
                fours[i / 4] = fours[i / 4] << 8 | b;
            }
            compare(run, 0, fours, x.feed(fours[0], fours[1], fours[2], fours[3], fours[4]),
                    model.feed(fours[0], fours[1], fours[2], fours[3], fours[4]));
        }
        int cut = model.count(0) - (20 - bytes.length % 20) % 20;
        compare(run, 2, new int[] {cut, 0, 0}, x.cut(cut), model.cut(cut));
    }

    /** A place, a node, a small number, or one that is far off. */
    private static int argument(Model model) {
        switch (draw(8)) {
            case 0:
                return 0;
            case 1:
                return draw(model.count(0) + 2);
            case 2:
            case 3:
                return draw(model.count(1) + 2);
            case 4:
                return Math.max(0, model.count(1) - draw(12));
            case 5:
                return draw(10);
            case 6:
                return Math.max(0, model.last(0));
            default:
                return draw(6) == 0 ? new int[] {-1, Integer.MIN_VALUE, Integer.MAX_VALUE}[draw(3)] : 1;
        }
    }

    private static final int BOUNDS = 1000000001;
    private static final int ILLEGAL = 1000000002;
    private static final int OTHER = 1000000003;

    private static int answer(Used x, int which, int[] in) {
        try {
            switch (which) {
                case 1: return x.put(in[0], someByte(in));
                case 2: return in[2] == 0 && in[1] % 3 == 0 ? x.cut(in[0]) : x.count(0);
                case 3: case 4: return x.read(in[0]);
                case 5: case 6: return x.entry(in[0]);
                case 7: return x.last(in[0] % 4);
                case 8: return x.kind(in[0]);
                case 9: return x.value(in[0]);
                case 10: return x.byteAt(in[0], in[1]);
                case 11: return x.child(in[0], in[1], in[2] == 1);
                case 12: return x.find(in[0], in[1]);
                case 13: return x.alike(in[0], in[1]) ? 1 : 0;
                case 14: return x.write(in[0]);
                case 15: return x.written(in[0]);
                case 16: return in[1] % 3 == 0 ? x.rewind() : x.last(0);
                case 17: return in[1] % 4 == 0 ? x.drop(in[0]) : x.count(3);
                default: return x.count(in[0] % 5);
            }
        } catch (IndexOutOfBoundsException e) {
            return e.getClass() == IndexOutOfBoundsException.class ? BOUNDS : OTHER;
        } catch (IllegalArgumentException e) {
            return e.getClass() == IllegalArgumentException.class ? ILLEGAL : OTHER;
        }
    }

    private static int answer(Model x, int which, int[] in) {
        try {
            switch (which) {
                case 1: return x.put(in[0], someByte(in));
                case 2: return in[2] == 0 && in[1] % 3 == 0 ? x.cut(in[0]) : x.count(0);
                case 3: case 4: return x.read(in[0]);
                case 5: case 6: return x.entry(in[0]);
                case 7: return x.last(in[0] % 4);
                case 8: return x.kind(in[0]);
                case 9: return x.value(in[0]);
                case 10: return x.byteAt(in[0], in[1]);
                case 11: return x.child(in[0], in[1], in[2] == 1);
                case 12: return x.find(in[0], in[1]);
                case 13: return x.alike(in[0], in[1]) ? 1 : 0;
                case 14: return x.write(in[0]);
                case 15: return x.written(in[0]);
                case 16: return in[1] % 3 == 0 ? x.rewind() : x.last(0);
                case 17: return in[1] % 4 == 0 ? x.drop(in[0]) : x.count(3);
                default: return x.count(in[0] % 5);
            }
        } catch (IndexOutOfBoundsException e) {
            return BOUNDS;
        } catch (IllegalArgumentException e) {
            return ILLEGAL;
        }
    }

    private static int someByte(int[] in) {
        return in[1] * 37 % 260;
    }

    private static void compare(int run, int which, int[] in, int got, int want) {
        if (got != want) {
            wrong++;
            System.out.println("run " + run + ": call " + which + java.util.Arrays.toString(in)
                    + " answered " + got + ", due is " + want);
        }
    }
}
