/** Promises 14 to 16: write, written, rewind. */
public final class WriteTest {
    private static final int NONE = SheetObjects.NONE;
    private static final int FULL = SheetObjects.FULL;
    private static final Bench bench = new Bench();

    public static void main(String[] args) {
        bench.sentence("14: Writes a node, instead of what was written: how many bytes", WriteTest::instead);
        bench.sentence("14: Each token is followed by one 32, but the last", WriteTest::blanks);
        bench.sentence("14: null, true, false", WriteTest::words);
        bench.sentence("14: INTEGERS in digits, with - if below 0", WriteTest::integers);
        bench.sentence("14: REALS likewise, a point, and their digits behind it", WriteTest::reals);
        bench.sentence("14: all digits there are, 0 if none", WriteTest::digits);
        bench.sentence("14: NAMES with # and two hexadecimal digits", WriteTest::names);
        bench.sentence("14: STRINGS as < with such digits and >", WriteTest::strings);
        bench.sentence("14: arrays, dictionaries (of a stream its own)", WriteTest::trees);
        bench.sentence("14: REFERENCES as three tokens", WriteTest::references);
        bench.sentence("14: not more than 65,536 bytes", WriteTest::upToTheBound);
        bench.sentence("14: FULL (and what was written stays) if there would be more than 65,536",
                WriteTest::beyondTheBound);
        bench.sentence("14: behind FULL", WriteTest::behindFull);
        bench.sentence("14: IndexOutOfBounds", WriteTest::writeOfNone);
        bench.sentence("15: Byte i of what was written last", WriteTest::writtenBytes);
        bench.sentence("15: NONE if there is none such", WriteTest::writtenNone);
        bench.sentence("16: The tape becomes what was written last; how many bytes", WriteTest::rewinds);
        bench.sentence("16: (nothing, at first)", WriteTest::rewindToNothing);
        bench.sentence("16: a tape of 65,536 bytes", WriteTest::rewindToTheBound);
        bench.end();
    }

    /** The text is written as wanted, and what is written is read as the same. */
    private static void writes(String text, String want) {
        Used x = Scene.tape(text).now();
        int node = x.read(0);
        bench.due(text + " length", x.write(node), want.length());
        bench.due(text, x.page(), want);
        x.rewind();
        int again = x.read(0);
        bench.due(text + " again", x.alike(node, again), true);
        bench.due(text + " all of it", x.last(0), want.length());
    }

    private static void instead() {
        Used x = Scene.read("[(abc) 1 /longername]").now();
        bench.due("the first", x.write(0), 26);
        bench.due("a shorter one", x.write(2), 1);
        bench.due("instead", x.page(), "1");
        bench.due("a longer one", x.write(3), 11);
        bench.due("instead of it", x.page(), "/longername");
        bench.due("once more", x.write(0), 26);
        bench.due("and whole", x.page(), "[ <616263> 1 /longername ]");
        bench.idle("tape, store and last stay", Scene.ordinary(), 17, y -> y.write(0));
    }

    private static void blanks() {
        writes("[]", "[ ]");
        writes("<<>>", "<< >>");
        writes("[[[]]]", "[ [ [ ] ] ]");
        writes("[1 2]", "[ 1 2 ]");
        writes("[null true false -1 -2.5 0. ()(x)/ /B[]<<>>1 0 R 2 0 R]",
                "[ null true false -1 -2.5 0.0 <> <78> / /B [ ] << >> 1 0 R 2 0 R ]");
        writes("<</A null/B 1/C 2.5/D(x)/E/F/G[]/H<<>>/I 1 0 R>>",
                "<< /A null /B 1 /C 2.5 /D <78> /E /F /G [ ] /H << >> /I 1 0 R >>");
        writes("7", "7");
        writes("2.5", "2.5");
    }

    private static void words() {
        writes("null", "null");
        writes("true", "true");
        writes("false", "false");
    }

    private static void integers() {
        writes("0", "0");
        writes("-0", "0");
        writes("+5", "5");
        writes("-5", "-5");
        writes("0010", "10");
        writes("99", "99");
        writes("100", "100");
        writes("-1000", "-1000");
        writes("999999999", "999999999");
        writes("1000000000", "1000000000");
        writes("1234567890", "1234567890");
        writes("2147483647", "2147483647");
        writes("-2147483647", "-2147483647");
    }

    private static void reals() {
        writes("12.75", "12.75");
        writes("-12.75", "-12.75");
        writes(".5", "0.5");
        writes("-.5", "-0.5");
        writes("99999.", "32767.9999847412109375");
        writes("-9999999999", "-32767.9999847412109375");
        writes("32767.", "32767.0");
    }

    private static void digits() {
        writes("0.", "0.0");
        writes("-0.0", "0.0");
        writes("-100.", "-100.0");
        writes("10.25", "10.25");
        writes("0.0625", "0.0625");
        writes(".3", "0.3000030517578125");
        writes("0.00001525878", "0.0000152587890625");
        writes("-0.00001525878", "-0.0000152587890625");
        writes("0.00003051757", "0.000030517578125");
        writes("0.99998474121", "0.9999847412109375");
        writes("1.000015258", "1.0000152587890625");
    }

    private static void names() {
        writes("/", "/");
        writes("/A#42", "/AB");
        for (int b = 1; b < 256; b++) {
            boolean plain = b >= 33 && b <= 126 && "()<>[]{}/%#".indexOf(b) < 0;
            writes(String.format("/a#%02xb", b), plain ? "/a" + (char) b + "b" : String.format("/a#%02Xb", b));
        }
        writes("/" + "#20".repeat(127), "/" + "#20".repeat(127));
    }

    private static void strings() {
        writes("()", "<>");
        writes("<5>", "<50>");
        for (int b = 0; b < 256; b++) {
            writes(String.format("(a\\%03ob)", b), String.format("<61%02X62>", b));
        }
    }

    private static void trees() {
        writes("[1[2]3<</A[4]/B<<>>>>[]5 0 R]", "[ 1 [ 2 ] 3 << /A [ 4 ] /B << >> >> [ ] 5 0 R ]");
        writes("<</A 1/A 2>>", "<< /A 1 /A 2 >>");
        writes("[".repeat(60) + "]".repeat(60), "[ ".repeat(60) + "] ".repeat(59) + "]");
        Used deep = Scene.read("<</A".repeat(99) + "[]" + ">>".repeat(99)).now();
        bench.due("100 deep", deep.write(0), "<< /A ".length() * 99 + "[ ]".length() + " >>".length() * 99);
        Used x = Scene.entry("1 0 obj <</A[1 [2] 3]/B 4>>stream\n").now();
        bench.due("a stream's dictionary", x.text(9), "<< /A [ 1 [ 2 ] 3 ] /B 4 >>");
        bench.due("its length", x.write(9), 27);
        bench.due("an array within", x.text(2), "[ 1 [ 2 ] 3 ]");
        bench.due("and deeper", x.text(4), "[ 2 ]");
        bench.due("a KEY", x.text(1), "/A");
        bench.due("the last VALUE", x.text(8), "4");
    }

    private static void references() {
        writes("0 0 R", "0 0 R");
        writes("8388607 65535 R", "8388607 65535 R");
        writes("[001 002 R]", "[ 1 2 R ]");
    }

    /** The store has an array of a string of 32,764 bytes, and a row of three more bytes. */
    private static Scene around(String three) {
        return Scene.literal(32768).then(x -> {
            x.put(0, '[');
            x.put(1, '(');
            x.put(32766, ')');
            x.put(32767, three.charAt(0));
            x.put(32768, three.charAt(1));
            x.put(32769, three.charAt(2));
            x.read(0);
        }).thenRead("7").then(x -> x.write(x.count(1) - 1)).thenTape("");
    }

    private static void upToTheBound() {
        Used x = Scene.literal(32767).now();
        bench.due("65,536 in a string", x.write(x.read(0)), 65536);
        bench.due("its first", x.written(0), '<');
        bench.due("its last", x.written(65535), '>');
        bench.due("none behind", x.written(65536), NONE);
        Used array = around("1 ]").now();
        bench.due("65,536 in an array", array.write(0), 65536);
        bench.due("its first", array.written(0), '[');
        bench.due("its string's last", array.written(65531), '>');
        bench.due("its last", array.written(65535), ']');
        bench.due("none behind", array.written(65536), NONE);
        bench.due("65,534 in an array", around("  ]").now().write(0), 65534);
    }

    private static void beyondTheBound() {
        bench.idle("65,537 in an array", around("12]"), FULL, x -> x.write(0));
        bench.idle("65,537 with a name", around("/a]"), FULL, x -> x.write(0));
        bench.idle("65,538 with an array", around("[]]"), FULL, x -> x.write(0));
        Scene one = Scene.bytes(32768).thenRead("7").then(x -> x.write(1));
        bench.idle("65,538 in a string", one, FULL, x -> x.write(0));
        bench.due("what was written stays", one.then(x -> x.write(0)).now().page(), "7");
        Scene none = Scene.bytes(32768).thenRead("[]").then(x -> x.write(1)).then(x -> x.write(0));
        bench.due("it is the tape's", none.now().rewind(), 3);
    }

    private static void behindFull() {
        Used x = around("12]").now();
        bench.due("FULL", x.write(0), FULL);
        bench.due("a short one", x.text(2), "12");
        bench.due("FULL again", x.write(0), FULL);
        x.lay("[[2]]");
        bench.due("another array", x.text(x.read(0)), "[ [ 2 ] ]");
        Used y = Scene.bytes(32768).now();
        bench.due("FULL", y.write(0), FULL);
        y.drop(0);
        y.lay("(a)");
        bench.due("with room again", y.text(y.read(0)), "<61>");
    }

    private static void writeOfNone() {
        for (int node : new int[] {-1, 3, 4000, Integer.MIN_VALUE, Integer.MAX_VALUE}) {
            bench.refused("write(" + node + ")", Scene.ordinary(), Bench.OUT_OF_BOUNDS, x -> x.write(node));
        }
        bench.due("the last node", Scene.ordinary().now().write(2), 4);
        Scene dropped = Scene.ordinary().then(x -> x.drop(0));
        bench.refused("what was dropped", dropped, Bench.OUT_OF_BOUNDS, x -> x.write(0));
    }

    private static void writtenBytes() {
        Scene scene = Scene.read("[1 2]").then(x -> x.write(0));
        String want = "[ 1 2 ]";
        for (int i = 0; i < want.length(); i++) {
            int at = i;
            bench.idle("byte " + i, scene, want.charAt(i), x -> x.written(at));
        }
        bench.due("the tape does not matter", scene.thenTape("xyz").now().page(), want);
        bench.due("nor does the store", scene.then(x -> x.drop(0)).now().page(), want);
        bench.due("nor another reading", scene.thenRead("(a)").now().page(), want);
    }

    private static void writtenNone() {
        Scene scene = Scene.read("[1 2]").then(x -> x.write(0));
        for (int i : new int[] {-1, 7, 8, 65535, 65536, Integer.MIN_VALUE, Integer.MAX_VALUE}) {
            bench.idle("byte " + i, scene, NONE, x -> x.written(i));
            bench.idle("byte " + i + " of none", Scene.read("[1 2]"), NONE, x -> x.written(i));
        }
        Scene shorter = scene.then(x -> x.write(1));
        bench.idle("what was written before", shorter, NONE, x -> x.written(1));
    }

    private static void rewinds() {
        Used x = Scene.read("[1 2]").then(y -> y.write(0)).now();
        bench.due("the tape stays till then", x.count(0), 5);
        bench.due("rewind", x.rewind(), 7);
        bench.due("the tape", x.count(0), 7);
        for (int i = 0; i < 7; i++) {
            bench.due("byte " + i, x.put(i, 'x'), "[ 1 2 ]".charAt(i));
        }
        bench.due("what was written stays", x.page(), "[ 1 2 ]");
        bench.due("rewind again", x.rewind(), 7);
        bench.due("its bytes again", x.put(1, 0), ' ');
        x.write(2);
        bench.due("to a shorter one", x.rewind(), 1);
        bench.throwing("no more", x, Bench.OUT_OF_BOUNDS, y -> y.put(1, 0));
        bench.due("nodes stay", x.count(1), 3);
        x.feed(0x20332034, 0, 0, 0, 0);
        bench.due("what is fed comes behind it", x.count(0), 21);
        bench.due("and is no part of what was written", x.page(), "2");
    }

    private static void rewindToNothing() {
        Used x = Scene.read("[1 2]").now();
        bench.due("rewind", x.rewind(), 0);
        bench.due("no tape", x.count(0), 0);
        bench.due("nothing to read", x.read(0), SheetObjects.ENDED);
        bench.due("the store stays", x.count(1), 3);
        bench.idle("again", Scene.read("[1 2]").then(Used::rewind), 0, Used::rewind);
    }

    private static void rewindToTheBound() {
        Used x = Scene.literal(32767).then(y -> y.write(y.read(0))).now();
        bench.due("rewind", x.rewind(), 65536);
        bench.due("the tape", x.count(0), 65536);
        bench.due("its last", x.put(65535, '>'), '>');
        x.drop(0);
        bench.due("it is read", x.read(0), 0);
        bench.due("its bytes", x.value(0), 32767);
    }
}
