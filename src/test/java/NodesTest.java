/** Promises 8 to 13: kind, value, byteAt, child, find, alike. */
public final class NodesTest {
    private static final int NONE = SheetObjects.NONE;
    private static final Bench bench = new Bench();

    public static void main(String[] args) {
        kindsAndValues();
        bytesOfNodes();
        children();
        findsTheLastEntry();
        alikeOrNot();
        noSuchNodes();
        bench.end();
    }

    /** 0 [, 1 null, 2 true, 3 false, 4 -7, 5 1.5, 6 (ab), 7 /N, 8 [, 9 <<, 10 /K, 11 1, 12 8 9 R */
    private static SheetObjects all() {
        SheetObjects x = Bench.load("[null true false -7 1.5 (a\\377) /N [] <</K 1>> 8 9 R]");
        x.read(0);
        return x;
    }

    private static SheetObjects stream() {
        SheetObjects x = Bench.load("1 0 obj <</A 1/B[2]/A 3/C null>>stream\n");
        x.entry(0);
        return x;
    }

    private static void kindsAndValues() {
        SheetObjects x = all();
        int[] kinds = {6, 0, 1, 1, 2, 3, 4, 5, 6, 7, 5, 2, 8};
        int[] values = {10, 0, 1, 0, -7, 98304, 2, 1, 0, 1, 1, 1, 8};
        for (int node = 0; node < kinds.length; node++) {
            bench.due("kind " + node, x.kind(node), kinds[node]);
            bench.due("value " + node, x.value(node), values[node]);
        }
        SheetObjects y = stream();
        bench.due("stream kind", y.kind(10), 9);
        bench.due("stream value", y.value(10), 39);
        bench.due("dictionary value", y.value(0), 4);
    }

    private static void bytesOfNodes() {
        SheetObjects x = all();
        bench.due("string byte 0", x.byteAt(6, 0), 'a');
        bench.due("string byte 1", x.byteAt(6, 1), 255);
        bench.due("string byte 2", x.byteAt(6, 2), NONE);
        bench.due("string byte -1", x.byteAt(6, -1), NONE);
        bench.due("string byte, highest", x.byteAt(6, Integer.MAX_VALUE), NONE);
        bench.due("string byte, lowest", x.byteAt(6, Integer.MIN_VALUE), NONE);
        bench.due("name byte 0", x.byteAt(7, 0), 'N');
        bench.due("name byte 1", x.byteAt(7, 1), NONE);
        bench.due("key byte 0", x.byteAt(10, 0), 'K');
        for (int node : new int[] {0, 1, 2, 3, 4, 5, 8, 9, 11, 12}) {
            bench.due("neither " + node, x.byteAt(node, 0), NONE);
        }
        bench.due("stream", stream().byteAt(10, 0), NONE);
    }

    private static void children() {
        SheetObjects x = all();
        int[] parts = {1, 2, 3, 4, 5, 6, 7, 8, 9, 12};
        for (int i = 0; i < parts.length; i++) {
            bench.due("array " + i, x.child(0, i, false), parts[i]);
            bench.due("array " + i + " with key", x.child(0, i, true), parts[i]);
        }
        bench.due("array 10", x.child(0, 10, false), NONE);
        bench.due("array -1", x.child(0, -1, false), NONE);
        bench.due("array, highest", x.child(0, Integer.MAX_VALUE, false), NONE);
        bench.due("empty array", x.child(8, 0, false), NONE);
        bench.due("dictionary key", x.child(9, 0, true), 10);
        bench.due("dictionary value", x.child(9, 0, false), 11);
        bench.due("dictionary 1", x.child(9, 1, true), NONE);
        bench.due("dictionary -1", x.child(9, -1, false), NONE);
        bench.due("reference", x.child(12, 0, false), 9);
        bench.due("reference -1", x.child(12, -1, true), 9);
        for (int node : new int[] {1, 2, 4, 5, 6, 7}) {
            bench.due("none in " + node, x.child(node, 0, false), NONE);
        }
        SheetObjects y = stream();
        bench.due("stream", y.child(10, 77, true), 0);
        bench.due("second key", y.child(0, 1, true), 3);
        bench.due("second value", y.child(0, 1, false), 4);
        bench.due("third key", y.child(0, 2, true), 6);
        bench.due("fourth value", y.child(0, 3, false), 9);
        bench.due("fifth", y.child(0, 4, false), NONE);
    }

    private static void findsTheLastEntry() {
        SheetObjects x = stream();
        bench.due("the last A", x.find(0, 1), 7);
        bench.due("by the other A", x.find(0, 6), 7);
        bench.due("B", x.find(0, 3), 4);
        bench.due("C is null", x.find(0, 8), NONE);
        bench.due("in a stream", x.find(10, 1), 7);
        bench.due("C in a stream", x.find(10, 8), NONE);
        bench.due("in an array", x.find(4, 1), NONE);
        bench.due("in a name", x.find(1, 1), NONE);
        bench.due("by an integer", x.find(0, 2), NONE);
        bench.due("by a stream", x.find(0, 10), NONE);
        Bench.lay(x, "[/#41 (A) /AB / /B]");
        int array = x.read(0);
        bench.due("the same bytes", x.find(0, array + 1), 7);
        bench.due("by a string", x.find(0, array + 2), NONE);
        bench.due("a longer name", x.find(0, array + 3), NONE);
        bench.due("an empty name", x.find(0, array + 4), NONE);
        Bench.lay(x, "<</A 1/A null/B null/B 2/ 3>>");
        int other = x.read(0);
        bench.due("the last one is null", x.find(other, 1), NONE);
        bench.due("the last one is not", x.find(other, 3), other + 8);
        bench.due("the empty key", x.find(other, array + 4), other + 10);
        bench.due("an inner key", x.find(array, array + 1), NONE);
        Bench.lay(x, "<</X<</A 1>>>>");
        bench.due("not in what lies within", x.find(x.read(0), 1), NONE);
        Bench.lay(x, "<<>>");
        bench.due("in an empty one", x.find(x.read(0), 1), NONE);
        SheetObjects y = Bench.load("<</B 1>> /A 2");
        y.read(0);
        y.read(8);
        y.read(11);
        bench.due("not behind it", y.find(0, 3), NONE);
    }

    private static void alike(String one, String other, boolean want) {
        SheetObjects x = Bench.load(one + " " + other);
        int first = x.read(0);
        int second = x.read(x.last(0));
        bench.due(one + " alike " + other, x.alike(first, second), want);
        bench.due(other + " alike " + one, x.alike(second, first), want);
        bench.due(one + " alike itself", x.alike(first, first), true);
    }

    private static void alikeOrNot() {
        String[] texts = {"null", "true", "false", "0", "1", "0.", "1.0", "(a)", "(b)", "(ab)", "()",
            "/a", "/b", "/", "[]", "[1]", "[1 2]", "[2 1]", "[[1]]", "[[] 1]", "[[1] 2]", "[[1 2]]",
            "<<>>", "<</a 1>>", "<</b 1>>", "<</a 2>>", "<</a 1/b 2>>", "<</b 2/a 1>>", "<</a[1]>>",
            "<</a[]>>", "[/a 1]", "1 0 R", "1 1 R", "2 0 R", "[1 0 R]", "[1 1 R]", "[<</a(x)>>]",
            "[<</a(y)>>]"};
        for (int i = 0; i < texts.length; i++) {
            for (int k = i; k < texts.length; k++) {
                alike(texts[i], texts[k], i == k);
            }
        }
        alike("(A\\102)", "<41 42>", true);
        alike("/A#42", "/#41B", true);
        alike("+01", "1", true);
        alike("1.50", "+1.5", true);
        alike("99999.", "3000000000", true);
        alike("01 00 R", "1 %\n 0 R", true);
        SheetObjects y = Bench.load("[[1] 2 [1] 3]");
        y.read(0);
        bench.due("what stands behind does not matter", y.alike(1, 4), true);
        SheetObjects x = stream();
        bench.due("a stream and its dictionary", x.alike(10, 0), false);
        Bench.lay(x, "  2 5 obj <</A 1/B[2]/A 3/C null>>\nstream\r\n");
        int same = x.entry(0);
        bench.due("streams elsewhere", x.alike(10, same), true);
        Bench.lay(x, "1 0 obj <</A 1/B[2]/A 4/C null>>stream\n");
        bench.due("streams that differ", x.alike(10, x.entry(0)), false);
        bench.due("a key and itself", x.alike(1, 6), true);
        bench.due("a key and another", x.alike(1, 3), false);
    }

    private static void noSuchNodes() {
        SheetObjects x = all();
        int[] nodes = {-1, 13, 4000, Integer.MAX_VALUE, Integer.MIN_VALUE};
        for (int node : nodes) {
            bench.outOfBounds("kind", () -> x.kind(node));
            bench.outOfBounds("value", () -> x.value(node));
            bench.outOfBounds("byteAt", () -> x.byteAt(node, 0));
            bench.outOfBounds("child", () -> x.child(node, 0, false));
            bench.outOfBounds("find, node", () -> x.find(node, 7));
            bench.outOfBounds("find, name", () -> x.find(9, node));
            bench.outOfBounds("find, name in none", () -> x.find(1, node));
            bench.outOfBounds("alike, one", () -> x.alike(node, 1) ? 1 : 0);
            bench.outOfBounds("alike, other", () -> x.alike(1, node) ? 1 : 0);
            bench.outOfBounds("write", () -> x.write(node));
        }
        x.drop(0);
        bench.outOfBounds("what was dropped", () -> x.kind(0));
    }
}
