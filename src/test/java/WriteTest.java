/** Promises 14 to 16: write, written, rewind. */
public final class WriteTest {
    private static final Bench bench = new Bench();

    public static void main(String[] args) {
        tokens();
        everyByteOfNames();
        everyByteOfStrings();
        partsOfObjects();
        writtenAndRewind();
        longest();
        bench.end();
    }

    private static void writes(String text, String want) {
        SheetObjects x = Bench.load(text);
        int node = x.read(0);
        bench.due(text + " length", x.write(node), want.length());
        bench.due(text, Bench.writing(x), want);
        x.rewind();
        int again = x.read(0);
        bench.due(text + " again", x.alike(node, again), true);
        bench.due(text + " all of it", x.last(0), want.length());
    }

    private static void tokens() {
        writes("null", "null");
        writes("true", "true");
        writes("false", "false");
        writes("0", "0");
        writes("-0", "0");
        writes("+10203", "10203");
        writes("2147483647", "2147483647");
        writes("-2147483647", "-2147483647");
        writes("1000000000", "1000000000");
        writes("0.", "0.0");
        writes("-.5", "-0.5");
        writes("12.75", "12.75");
        writes("-100.", "-100.0");
        writes("0.00001525878", "0.0000152587890625");
        writes("-0.00001525878", "-0.0000152587890625");
        writes(".3", "0.3000030517578125");
        writes("99999", "99999");
        writes("99999.", "32767.9999847412109375");
        writes("-9999999999", "-32767.9999847412109375");
        writes("/", "/");
        writes("/A#42", "/AB");
        writes("()", "<>");
        writes("(\\000\\377Jk)", "<00FF4A6B>");
        writes("[]", "[ ]");
        writes("<<>>", "<< >>");
        writes("[[[]]]", "[ [ [ ] ] ]");
        writes("[1[2]3<</A[4]/B<<>>>>[]5 0 R]",
                "[ 1 [ 2 ] 3 << /A [ 4 ] /B << >> >> [ ] 5 0 R ]");
        writes("<</A/B/A(x)>>", "<< /A /B /A <78> >>");
        writes("8388607 65535 R", "8388607 65535 R");
        writes("[".repeat(100) + "]".repeat(100), "[ ".repeat(100) + "] ".repeat(99) + "]");
    }

    private static void everyByteOfNames() {
        for (int b = 1; b < 256; b++) {
            SheetObjects x = Bench.load(String.format("/a#%02xb", b));
            boolean plain = b >= 33 && b <= 126 && "()<>[]{}/%#".indexOf(b) < 0;
            bench.due("name with " + b, Bench.writing(x, x.read(0)),
                    plain ? "/a" + (char) b + "b" : String.format("/a#%02Xb", b));
        }
    }

    private static void everyByteOfStrings() {
        for (int b = 0; b < 256; b++) {
            SheetObjects x = Bench.load(String.format("(a\\%03ob)", b));
            bench.due("string with " + b, Bench.writing(x, x.read(0)), String.format("<61%02X62>", b));
        }
    }

    private static void partsOfObjects() {
        SheetObjects x = Bench.load("1 0 obj <</A[1 [2] 3]/B 4>>stream\n");
        int stream = x.entry(0);
        bench.due("a stream's dictionary", Bench.writing(x, stream), "<< /A [ 1 [ 2 ] 3 ] /B 4 >>");
        bench.due("a key", Bench.writing(x, 1), "/A");
        bench.due("an array within", Bench.writing(x, 2), "[ 1 [ 2 ] 3 ]");
        bench.due("and deeper", Bench.writing(x, 4), "[ 2 ]");
        bench.due("a value", Bench.writing(x, 8), "4");
    }

    private static void writtenAndRewind() {
        SheetObjects x = Bench.load("[1 2]");
        x.read(0);
        bench.due("nothing written", x.written(0), SheetObjects.NONE);
        bench.due("write", x.write(0), 7);
        bench.due("written(-1)", x.written(-1), SheetObjects.NONE);
        bench.due("written(0)", x.written(0), '[');
        bench.due("written(6)", x.written(6), ']');
        bench.due("written(7)", x.written(7), SheetObjects.NONE);
        bench.due("the highest", x.written(Integer.MAX_VALUE), SheetObjects.NONE);
        bench.due("the lowest", x.written(Integer.MIN_VALUE), SheetObjects.NONE);
        bench.due("the tape stays", x.count(0), 5);
        bench.due("rewind", x.rewind(), 7);
        bench.due("the tape", x.count(0), 7);
        bench.due("its bytes", x.put(1, 'x'), ' ');
        bench.due("what was written stays", Bench.writing(x), "[ 1 2 ]");
        bench.due("rewind again", x.rewind(), 7);
        bench.due("its bytes again", x.put(1, ' '), ' ');
        bench.due("a shorter one", x.write(2), 1);
        bench.due("instead", Bench.writing(x), "2");
        bench.outOfBounds("write(9)", () -> x.write(9));
        bench.due("it stays", Bench.writing(x), "2");
        x.drop(0);
        bench.due("also when dropped", Bench.writing(x), "2");
        bench.due("rewind to it", x.rewind(), 1);
        SheetObjects y = Bench.load("abc");
        bench.due("rewind to nothing", y.rewind(), 0);
        bench.due("nothing is left", y.count(0), 0);
    }

    private static void longest() {
        SheetObjects x = Long65536.literal(32767);
        bench.due("65,536 bytes", x.write(x.read(0)), 65536);
        bench.due("the first", x.written(0), '<');
        bench.due("the last", x.written(65535), '>');
        bench.due("none behind", x.written(65536), SheetObjects.NONE);
        bench.due("rewind to them", x.rewind(), 65536);
        bench.due("read again", x.read(0), SheetObjects.FULL);
        SheetObjects y = Long65536.literal(32768);
        int length = Bench.writing(y).length();
        bench.due("65,538 bytes", y.write(y.read(0)), SheetObjects.FULL);
        bench.due("what was written stays", Bench.writing(y).length(), length);
        bench.due("it is there", length > 0, true);
        bench.due("and is the tape's", y.rewind(), length);
        bench.due("a short one", y.write(0), SheetObjects.FULL);
        Bench.lay(y, "[]");
        bench.due("behind FULL", y.write(y.read(0)), 3);
        bench.due("written", Bench.writing(y), "[ ]");
        SheetObjects z = Long65536.literal(32766);
        z.put(0, '[');
        z.put(1, '(');
        z.put(z.count(0) - 2, ')');
        z.put(z.count(0) - 1, ']');
        bench.due("an array around", z.write(z.read(0)), 32764 * 2 + 6);
        SheetObjects w = Long65536.literal(32768);
        w.put(0, '[');
        w.put(1, '(');
        w.put(w.count(0) - 2, ')');
        w.put(w.count(0) - 1, ']');
        bench.due("32,766 bytes in an array", w.write(w.read(0)), SheetObjects.FULL);
        Bench.lay(w, "[[2]]");
        bench.due("another array behind FULL", Bench.writing(w, w.read(0)), "[ [ 2 ] ]");
    }
}
