/** Promises 5 and 7: READING from a place on, what goes wrong, and where. */
public final class ReadTest {
    private static final Bench bench = new Bench();

    public static void main(String[] args) {
        placesAreLookedAt();
        blanksArePassedOver();
        wordsAreObjects();
        integersAndReals();
        references();
        literalStrings();
        hexadecimalStrings();
        names();
        arraysAndDictionaries();
        whatEnds();
        whatBeginsNone();
        wrongStringsAndNames();
        wrongKeys();
        firstFaultOfAToken();
        depth();
        fullOfNodes();
        fullOfBytes();
        lastTellsTheLatest();
        bench.end();
    }

    /** One object of a kind and value, that ends at a place. */
    private static void one(String text, int kind, int value, int past) {
        SheetObjects x = Bench.load(text);
        bench.due(text + " node", x.read(0), 0);
        bench.due(text + " past", x.last(0), past);
        bench.due(text + " nodes", x.count(1), 1);
        bench.due(text + " kind", x.kind(0), kind);
        bench.due(text + " value", x.value(0), value);
    }

    /** One string or name with these bytes, the tape's last token. */
    private static void bytes(String text, int kind, String want) {
        one(text, kind, want.length(), text.length());
        SheetObjects x = Bench.load(text);
        bench.due(text + " bytes", Bench.bytes(x, x.read(0)), want);
    }

    /** A fault at a place; the store, which had one object before, stays. */
    private static void fault(String text, int answer, int place) {
        SheetObjects x = Bench.load("[(one) /two]");
        x.read(0);
        Bench.lay(x, text);
        bench.due(text, x.read(0), answer);
        bench.due(text + " place", x.last(0), place);
        bench.due(text + " number", x.last(1), 0);
        bench.due(text + " nodes", x.count(1), 3);
        bench.due(text + " bytes", x.count(2), 6);
        bench.due(text + " objects", x.count(3), 1);
        bench.due(text + " what was", Bench.writing(x, 0), "[ <6F6E65> /two ]");
    }

    private static void placesAreLookedAt() {
        SheetObjects x = Bench.load("12 34");
        bench.outOfBounds("read(-1)", () -> x.read(-1));
        bench.outOfBounds("read(6)", () -> x.read(6));
        bench.outOfBounds("read of the highest", () -> x.read(Integer.MAX_VALUE));
        bench.outOfBounds("read of the lowest", () -> x.read(Integer.MIN_VALUE));
        bench.due("no reading yet", x.last(0), SheetObjects.NONE);
        bench.due("read(5)", x.read(5), SheetObjects.ENDED);
        bench.due("read(1)", x.read(1), 0);
        bench.due("value", x.value(0), 2);
        bench.outOfBounds("read(6) again", () -> x.read(6));
        bench.due("last stays", x.last(0), 2);
        bench.due("read(2)", x.read(2), 1);
        bench.due("value", x.value(1), 34);
    }

    private static void blanksArePassedOver() {
        one("\0\t\n\f\r true ", 1, 1, 10);
        one("%a ( [ <<\n1", 2, 1, 11);
        one("%a\r1", 2, 1, 4);
        one("%%\n%\r\n%b%c\n 1%", 2, 1, 13);
        fault("\u000B1", SheetObjects.TOKEN, 0);
        one("true%", 1, 1, 4);
        one("true/", 1, 1, 4);
        one("true[", 1, 1, 4);
        one("true{", 1, 1, 4);
        one("true}", 1, 1, 4);
        one("true)", 1, 1, 4);
        one("true(", 1, 1, 4);
        one("true<", 1, 1, 4);
        one("true>", 1, 1, 4);
        one("true]", 1, 1, 4);
    }

    private static void wordsAreObjects() {
        one("null", 0, 0, 4);
        one("true", 1, 1, 4);
        one("false", 1, 0, 5);
        fault("Null", SheetObjects.TOKEN, 0);
        fault("nul", SheetObjects.TOKEN, 0);
        fault("nulll", SheetObjects.TOKEN, 0);
        fault(" true1", SheetObjects.TOKEN, 1);
        fault("false\u00FF", SheetObjects.TOKEN, 0);
    }

    private static void integersAndReals() {
        one("0", 2, 0, 1);
        one("-0", 2, 0, 2);
        one("+17", 2, 17, 3);
        one("-17", 2, -17, 3);
        one("0000000000000000000000000000017", 2, 17, 31);
        one("2147483647", 2, 2147483647, 10);
        one("-2147483647", 2, -2147483647, 11);
        one("2147483648", 3, 2147483647, 10);
        one("-2147483648", 3, -2147483647, 11);
        one("99999999999999999999999999999999", 3, 2147483647, 32);
        one("-18446744073709551616", 3, -2147483647, 21);
        one("18446744073709551621", 3, 2147483647, 20);
        one("1.", 3, 65536, 2);
        one(".5", 3, 32768, 2);
        one("-.5", 3, -32768, 3);
        one("+3.25", 3, 212992, 5);
        one("-0.0", 3, 0, 4);
        one("0.00001525878", 3, 1, 13);
        one("0.000007629", 3, 0, 11);
        one("0.000007630", 3, 1, 11);
        one("-0.000007630", 3, -1, 12);
        one("0.0000076299999", 3, 0, 15);
        // With nine digits no number lies just between two 65,536ths.
        one("0.001953125", 3, 128, 11);
        one("0.501960784", 3, 32897, 11);
        one("32767.999984741", 3, 2147483647, 15);
        one("32767.99999", 3, 2147483647, 11);
        one("32768.", 3, 2147483647, 6);
        one("-32768.0", 3, -2147483647, 8);
        one("-99999999999999999999.9", 3, -2147483647, 23);
        fault("-", SheetObjects.TOKEN, 0);
        fault("+", SheetObjects.TOKEN, 0);
        fault(".", SheetObjects.TOKEN, 0);
        fault("-.", SheetObjects.TOKEN, 0);
        fault("1.2.3", SheetObjects.TOKEN, 0);
        fault("--1", SheetObjects.TOKEN, 0);
        fault("+-1", SheetObjects.TOKEN, 0);
        fault("1-", SheetObjects.TOKEN, 0);
        fault("1e5", SheetObjects.TOKEN, 0);
        fault("0x1", SheetObjects.TOKEN, 0);
    }

    private static void references() {
        one("1 0 R", 8, 1, 5);
        one("0 0 R", 8, 0, 5);
        one("8388607 65535 R", 8, 8388607, 15);
        one("008388607 0000000000000065535\rR", 8, 8388607, 31);
        one("7%x\n5%y\rR]", 8, 7, 9);
        one("8388608 0 R", 2, 8388608, 7);
        one("1 65536 R", 2, 1, 1);
        one("+1 0 R", 2, 1, 2);
        one("1 -0 R", 2, 1, 1);
        one("1 0. R", 2, 1, 1);
        one("1 0 r", 2, 1, 1);
        one("1 0 RR", 2, 1, 1);
        one("1 0", 2, 1, 1);
        one("1 0 (", 2, 1, 1);
        one("1 /0 R", 2, 1, 1);
        one("1 0 /R", 2, 1, 1);
        SheetObjects x = Bench.load("[1 2 0 R 3 4 5 R 6]");
        x.read(0);
        bench.due("integers before references", Bench.writing(x, 0), "[ 1 2 0 R 3 4 5 R 6 ]");
        bench.due("how many", x.value(0), 5);
        bench.due("the second", x.kind(2), 8);
        bench.due("generation", x.child(4, 0, false), 5);
        fault("[1 R]", SheetObjects.TOKEN, 3);
        fault("[8388608 0 R]", SheetObjects.TOKEN, 11);
    }

    private static void literalStrings() {
        bytes("()", 4, "");
        bytes("(a b)", 4, "a b");
        bytes("((a)(()))", 4, "(a)(())");
        bytes("(\\n\\r\\t\\b\\f)", 4, "\n\r\t\b\f");
        bytes("(\\(\\)\\\\\\q\\N\\8)", 4, "()\\qN8");
        bytes("(\\1\\12\\123\\1234\\18)", 4, "\1\12\123\1234\0018");
        bytes("(\\400\\777\\000)", 4, "\0\u00FF\0");
        bytes("(\\0053)", 4, "\0053");
        bytes("(a\\\nb\\\rc\\\r\nd\\\n\re)", 4, "abcd\ne");
        bytes("(a\nb\rc\r\nd\n\re\r\rf)", 4, "a\nb\nc\nd\n\ne\n\nf");
        bytes("(%</[{\0\u00FF>)", 4, "%</[{\0\u00FF>");
        bytes("(\\\u00FF\\\0)", 4, "\u00FF\0");
        one("(a))", 4, 1, 3);
    }

    private static void hexadecimalStrings() {
        bytes("<>", 4, "");
        bytes("<\0\t\n\f\r >", 4, "");
        bytes("<414a4B>", 4, "AJK");
        bytes("<4 1\n4>", 4, "A@");
        bytes("<5>", 4, "P");
        bytes("<00fFfF0>", 4, "\0\u00FF\u00FF\0");
        one("<41>>", 4, 1, 4);
    }

    private static void names() {
        bytes("/", 5, "");
        bytes("/A-b.1", 5, "A-b.1");
        bytes("/#41#4a#4A", 5, "AJJ");
        bytes("/#", 5, "#");
        bytes("/#4", 5, "#4");
        bytes("/#4g", 5, "#4g");
        bytes("/#g4", 5, "#g4");
        bytes("/##41", 5, "#A");
        bytes("/#2341", 5, "#41");
        bytes("/#20#28#01", 5, " (\1");
        bytes("/\u0080\u00FF\u0001", 5, "\u0080\u00FF\u0001");
        bytes("/" + "x".repeat(127), 5, "x".repeat(127));
        bytes("/" + "#78".repeat(127), 5, "x".repeat(127));
        one("/a/b", 5, 1, 2);
        one("/a#2", 5, 3, 4);
        one("/a#\0", 5, 2, 3);
    }

    private static void arraysAndDictionaries() {
        one("[]", 6, 0, 2);
        one("[%]\n ]", 6, 0, 6);
        one("<<>>", 7, 0, 4);
        one("<< >>>>", 7, 0, 5);
        SheetObjects x = Bench.load("[<</A[1]/B<</C()>>>>[[]]<41>/N]");
        bench.due("nested", x.read(0), 0);
        bench.due("nested past", x.last(0), 31);
        bench.due("nested nodes", x.count(1), 13);
        int[] kinds = {6, 7, 5, 6, 2, 5, 7, 5, 4, 6, 6, 4, 5};
        for (int node = 0; node < kinds.length; node++) {
            bench.due("nested kind " + node, x.kind(node), kinds[node]);
        }
        bench.due("nested bytes", x.count(2), 5);
    }

    private static void whatEnds() {
        fault("", SheetObjects.ENDED, 0);
        fault("  ", SheetObjects.ENDED, 2);
        fault(" % true", SheetObjects.ENDED, 7);
        fault("[", SheetObjects.ENDED, 1);
        fault("[1 2 ", SheetObjects.ENDED, 5);
        fault("<<", SheetObjects.ENDED, 2);
        fault("<</A ", SheetObjects.ENDED, 5);
        fault("<</A 1", SheetObjects.ENDED, 6);
        fault("<</A 1 % >>", SheetObjects.ENDED, 11);
        fault("(", SheetObjects.ENDED, 1);
        fault("(a(b)", SheetObjects.ENDED, 5);
        fault("(a\\)", SheetObjects.ENDED, 4);
        fault("(a\\", SheetObjects.ENDED, 3);
        fault("(a\\1", SheetObjects.ENDED, 4);
        fault("(a\r", SheetObjects.ENDED, 3);
        fault("(a\\\r", SheetObjects.ENDED, 4);
        fault("[(a) (b", SheetObjects.ENDED, 7);
        fault("<", SheetObjects.ENDED, 1);
        fault("<41 ", SheetObjects.ENDED, 4);
    }

    private static void whatBeginsNone() {
        fault("]", SheetObjects.TOKEN, 0);
        fault(" >>", SheetObjects.TOKEN, 1);
        fault(">", SheetObjects.TOKEN, 0);
        fault(")", SheetObjects.TOKEN, 0);
        fault("{", SheetObjects.TOKEN, 0);
        fault("}", SheetObjects.TOKEN, 0);
        fault("R", SheetObjects.TOKEN, 0);
        fault("obj", SheetObjects.TOKEN, 0);
        fault("[1 >>", SheetObjects.TOKEN, 3);
        fault("[1 >]", SheetObjects.TOKEN, 3);
        fault("[(a) x]", SheetObjects.TOKEN, 5);
        fault("<</A>>", SheetObjects.TOKEN, 4);
        fault("<</A]>>", SheetObjects.TOKEN, 4);
        fault("<</A[1]/B]>>", SheetObjects.TOKEN, 9);
        fault("[<</A 1>>>>]", SheetObjects.TOKEN, 9);
    }

    private static void wrongStringsAndNames() {
        fault("<4x>", SheetObjects.STRING, 0);
        fault("[1 <4 %\n1>]", SheetObjects.STRING, 3);
        fault("< <41>", SheetObjects.STRING, 0);
        fault("<(>", SheetObjects.STRING, 0);
        fault("<4\u000B1>", SheetObjects.STRING, 0);
        fault("<<<x>", SheetObjects.STRING, 2);
        fault("/a#00", SheetObjects.NAME, 0);
        fault("[/" + "x".repeat(128) + "]", SheetObjects.NAME, 1);
        fault("/" + "#78".repeat(128), SheetObjects.NAME, 0);
        fault("<</A/#00>>", SheetObjects.NAME, 4);
        fault("<</A 1/#00 1>>", SheetObjects.NAME, 6);
    }

    private static void wrongKeys() {
        fault("<<1 2>>", SheetObjects.KEY, 2);
        fault("<<(a) 2>>", SheetObjects.KEY, 2);
        fault("<< ]", SheetObjects.KEY, 3);
        fault("<<[", SheetObjects.KEY, 2);
        fault("<<<<", SheetObjects.KEY, 2);
        fault("<<>", SheetObjects.KEY, 2);
        fault("<<}", SheetObjects.KEY, 2);
        fault("<<null", SheetObjects.KEY, 2);
        fault("<</A 1 2>>", SheetObjects.KEY, 7);
        fault("<</A[] ]", SheetObjects.KEY, 7);
        fault("<</A 1 0 R R>>", SheetObjects.KEY, 11);
    }

    private static void firstFaultOfAToken() {
        fault("<4x", SheetObjects.ENDED, 3);
        fault("<<<4x", SheetObjects.ENDED, 5);
        fault("<<(a", SheetObjects.ENDED, 4);
        fault("<<<4x>", SheetObjects.STRING, 2);
        fault("[x <4x", SheetObjects.TOKEN, 1);
        fault("<<(a) (b", SheetObjects.KEY, 2);
    }

    private static void depth() {
        nests("[".repeat(100) + "]".repeat(100), 100, 200);
        fault("[".repeat(101) + "]".repeat(101), SheetObjects.DEEP, 100);
        fault("[".repeat(100) + "<<>>", SheetObjects.DEEP, 100);
        fault("<</A ".repeat(100) + "[", SheetObjects.DEEP, 500);
        nests("<</A".repeat(99) + "[]" + ">>".repeat(99), 199, 596);
        nests("[" + "[".repeat(99) + "]".repeat(99) + "[".repeat(99) + "]".repeat(100), 199, 398);
    }

    private static void nests(String text, int nodes, int past) {
        SheetObjects x = Bench.load(text);
        bench.due("depth: node", x.read(0), 0);
        bench.due("depth: nodes", x.count(1), nodes);
        bench.due("depth: past", x.last(0), past);
    }

    /** A store with so many nodes, 1 and more, each an object of its own or in an array. */
    private static SheetObjects crowd(int nodes) {
        SheetObjects x = Bench.load("[" + "1 ".repeat(398) + "]");
        for (int i = 0; i < nodes / 399; i++) {
            x.read(0);
        }
        Bench.lay(x, "1");
        for (int i = x.count(1); i < nodes; i++) {
            x.read(0);
        }
        return x;
    }

    private static void fullOfNodes() {
        SheetObjects x = crowd(3998);
        full(x, "[1 2]", 3);
        full(x, "[[] []]", 4);
        full(x, "<</A 1>>", 5);
        full(x, "[1 (ab)]", 3);
        full(x, "[1 1 0 R]", 3);
        full(x, "[1 /A]", 3);
        full(x, "[1 null]", 3);
        full(x, "[1 [", 3);
        fits(x, "[1]", 4000);
        fits(x, "<<>>", 3999);
        fits(x, "[1 0 R]", 4000);
        Bench.lay(x, "[1 <x>");
        bench.due("STRING before FULL", x.read(0), SheetObjects.STRING);
        Bench.lay(x, "[1 /#00");
        bench.due("NAME before FULL", x.read(0), SheetObjects.NAME);
        Bench.lay(x, "[1 x");
        bench.due("TOKEN before FULL", x.read(0), SheetObjects.TOKEN);
        Bench.lay(x, "<<>>");
        x.read(0);
        Bench.lay(x, "<</A 1>>");
        bench.due("no room for a key", x.read(0), SheetObjects.FULL);
        bench.due("its place", x.last(0), 2);
        Bench.lay(x, "<<1 1>>");
        bench.due("KEY before FULL", x.read(0), SheetObjects.KEY);
        Bench.lay(x, "1");
        bench.due("the last node", x.read(0), 3999);
        full(x, "1", 0);
        full(x, " ()", 1);
        SheetObjects y = crowd(3900);
        Bench.lay(y, "[".repeat(101));
        bench.due("DEEP before FULL", y.read(0), SheetObjects.DEEP);
        Bench.lay(y, "[1" + "[".repeat(101));
        bench.due("FULL before DEEP", y.read(0), SheetObjects.FULL);
        bench.due("its place", y.last(0), 100);
    }

    private static void full(SheetObjects x, String text, int place) {
        int nodes = x.count(1);
        int objects = x.count(3);
        int bytes = x.count(2);
        Bench.lay(x, text);
        bench.due("full " + text, x.read(0), SheetObjects.FULL);
        bench.due("full place " + text, x.last(0), place);
        bench.due("full nodes " + text, x.count(1), nodes);
        bench.due("full bytes " + text, x.count(2), bytes);
        bench.due("full objects " + text, x.count(3), objects);
    }

    private static void fits(SheetObjects x, String text, int nodes) {
        int before = x.count(1);
        Bench.lay(x, text);
        bench.due("fits " + text, x.read(0), before);
        bench.due("fits nodes " + text, x.count(1), nodes);
        x.drop(before);
    }

    private static void fullOfBytes() {
        SheetObjects x = Long65536.literal(32768);
        bench.due("32,768 bytes", x.read(0), 0);
        bench.due("all of them", x.count(2), 32768);
        full(x, "(a)", 0);
        full(x, "[() /a]", 4);
        full(x, "<</ ()/ <4>>>", 8);
        fits(x, "[() / <>]", 5);
        bench.due("the first byte", x.byteAt(0, 0), '3');
        bench.due("the last byte", x.byteAt(0, 32767) != SheetObjects.NONE, true);
        SheetObjects y = Long65536.literal(32769);
        bench.due("32,769 bytes", y.read(0), SheetObjects.FULL);
        bench.due("its place", y.last(0), 0);
        bench.due("none of them", y.count(2), 0);
        bench.due("from behind the (", y.read(1), 0);
        y.put(32770, 'a');
        bench.due("ENDED before FULL", y.read(0), SheetObjects.ENDED);
        SheetObjects z = Long65536.literal(32768);
        z.put(1, '/');
        bench.due("NAME before FULL, too", z.read(1), SheetObjects.NAME);
    }

    private static void lastTellsTheLatest() {
        SheetObjects x = Bench.load("7 0 obj 5 endobj x");
        x.entry(0);
        bench.due("entry: place", x.last(0), 16);
        bench.due("entry: number", x.last(1), 7);
        bench.due("read", x.read(8), 1);
        bench.due("read: place", x.last(0), 9);
        bench.due("read: number", x.last(1), 0);
        bench.due("read: generation", x.last(2), 0);
        bench.due("last(3)", x.last(3), SheetObjects.NONE);
        bench.due("last(-1)", x.last(-1), SheetObjects.NONE);
        x.cut(0);
        x.drop(0);
        x.rewind();
        bench.due("it stays", x.last(0), 9);
        Bench.lay(x, "7 0 obj 5 endobj x");
        bench.due("a fault", x.read(17), SheetObjects.TOKEN);
        bench.due("its place", x.last(0), 17);
    }
}
