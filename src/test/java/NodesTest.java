/** Promises 8 to 13: kind, value, byteAt, child, find, alike. */
public final class NodesTest {
    private static final int NONE = SheetObjects.NONE;
    private static final int LOWEST = Integer.MIN_VALUE;
    private static final int HIGHEST = Integer.MAX_VALUE;
    private static final int[] NO_NODES = {-1, 13, 4000, LOWEST, HIGHEST};
    private static final Bench bench = new Bench();

    public static void main(String[] args) {
        bench.sentence("8: What a node is", NodesTest::kinds);
        bench.sentence("8: IndexOutOfBounds: there is none such", NodesTest::kindOfNone);
        bench.sentence("9: of each kind its value", NodesTest::values);
        bench.sentence("9: the least and greatest values", NodesTest::edgeValues);
        bench.sentence("9: IndexOutOfBounds", NodesTest::valueOfNone);
        bench.sentence("10: Byte i of a STRING or NAME", NodesTest::bytes);
        bench.sentence("10: NONE if it has none such", NodesTest::noSuchBytes);
        bench.sentence("10: NONE if it is neither", NodesTest::bytesOfOthers);
        bench.sentence("10: IndexOutOfBounds: there is no such node", NodesTest::bytesOfNone);
        bench.sentence("11: Of an ARRAY the i-th object (from 0 on; key does not matter)", NodesTest::parts);
        bench.sentence("11: of a DICTIONARY the VALUE, or (key) the KEY of the i-th ENTRY", NodesTest::sides);
        bench.sentence("11: of a REFERENCE its generation, of a stream its DICTIONARY (whatever i)",
                NodesTest::whateverI);
        bench.sentence("11: NONE if there is none such", NodesTest::noSuchChildren);
        bench.sentence("11: IndexOutOfBounds: there is no such node", NodesTest::childOfNone);
        bench.sentence("12: The VALUE of a DICTIONARY of the last ENTRY with the same KEY", NodesTest::finds);
        bench.sentence("12: of a stream: of its", NodesTest::findsInStreams);
        bench.sentence("12: the same KEY", NodesTest::sameKeys);
        bench.sentence("12: NONE if there is none", NodesTest::findsNone);
        bench.sentence("12: NONE if it is null", NodesTest::findsNull);
        bench.sentence("12: NONE if one is something else", NodesTest::findsInOthers);
        bench.sentence("12: IndexOutOfBounds: there is no such node", NodesTest::findOfNone);
        bench.sentence("13: of the same kind, value, bytes, generation", NodesTest::alikeLeaves);
        bench.sentence("13: KEYS, VALUES and objects alike in the same order", NodesTest::alikeTrees);
        bench.sentence("13: of streams, their dictionaries", NodesTest::alikeStreams);
        bench.sentence("13: IndexOutOfBounds: there is no such node", NodesTest::alikeOfNone);
        bench.sentence("8 to 13: nothing changes", NodesTest::nothingChanges);
        bench.end();
    }

    /** 0 [, 1 null, 2 true, 3 false, 4 -7, 5 1.5, 6 string, 7 /N, 8 [, 9 <<, 10 /K, 11 1, 12 8 9 R */
    private static Scene all() {
        return Scene.read("[null true false -7 1.5 (a\\377) /N [] <</K 1>> 8 9 R]");
    }

    /** 0 <<, 1 /A, 2 1, 3 /B, 4 [, 5 2, 6 /A, 7 3, 8 /C, 9 null, 10 the stream */
    private static Scene stream() {
        return Scene.entry("1 0 obj <</A 1/B[2]/A 3/C null>>stream\n");
    }

    private static void kinds() {
        Used x = all().now();
        int[] kinds = {6, 0, 1, 1, 2, 3, 4, 5, 6, 7, 5, 2, 8};
        for (int node = 0; node < kinds.length; node++) {
            bench.due("kind " + node, x.kind(node), kinds[node]);
        }
        bench.due("a stream", stream().now().kind(10), 9);
        bench.due("its dictionary", stream().now().kind(0), 7);
    }

    private static void kindOfNone() {
        bench.due("the last node", all().now().kind(12), 8);
        for (int node : NO_NODES) {
            bench.refused("kind(" + node + ")", all(), Bench.OUT_OF_BOUNDS, x -> x.kind(node));
        }
        Scene dropped = all().then(x -> x.drop(0));
        bench.refused("what was dropped", dropped, Bench.OUT_OF_BOUNDS, x -> x.kind(0));
        Scene wrong = Scene.read("[1 2 x]");
        bench.refused("what was not read", wrong, Bench.OUT_OF_BOUNDS, x -> x.kind(0));
    }

    private static void values() {
        Used x = all().now();
        int[] values = {10, 0, 1, 0, -7, 98304, 2, 1, 0, 1, 1, 1, 8};
        for (int node = 0; node < values.length; node++) {
            bench.due("value " + node, x.value(node), values[node]);
        }
        Used y = stream().now();
        bench.due("entries", y.value(0), 4);
        bench.due("an array in it", y.value(4), 1);
        bench.due("where a stream's bytes begin", y.value(10), 39);
    }

    private static void edgeValues() {
        bench.reads("2147483647", 2, 2147483647, 10);
        bench.reads("-2147483647", 2, -2147483647, 11);
        bench.reads("99999.", 3, 2147483647, 6);
        bench.reads("-99999.", 3, -2147483647, 7);
        bench.reads("()", 4, 0, 2);
        bench.reads("/", 5, 0, 1);
        bench.reads("[]", 6, 0, 2);
        bench.reads("<<>>", 7, 0, 4);
        bench.reads("0 0 R", 8, 0, 5);
        bench.reads("8388607 0 R", 8, 8388607, 11);
        bench.due("the longest string", Scene.bytes(32768).now().value(0), 32768);
        Used x = Scene.read(Scene.ones(399)).now();
        x.lay("[[1 2 3] <</A[4 5]/B 6>> [[]]]");
        int node = x.read(0);
        bench.due("objects, not nodes", x.value(node), 3);
        bench.due("entries, not nodes", x.value(node + 5), 2);
    }

    private static void valueOfNone() {
        bench.due("the last node", all().now().value(12), 8);
        for (int node : NO_NODES) {
            bench.refused("value(" + node + ")", all(), Bench.OUT_OF_BOUNDS, x -> x.value(node));
        }
    }

    private static void bytes() {
        Used x = all().now();
        bench.due("string, first", x.byteAt(6, 0), 'a');
        bench.due("string, last", x.byteAt(6, 1), 255);
        bench.due("name", x.byteAt(7, 0), 'N');
        bench.due("key", x.byteAt(10, 0), 'K');
        Used y = Scene.read("(\\000\\177\\200\\377)").now();
        int[] want = {0, 127, 128, 255};
        for (int i = 0; i < want.length; i++) {
            bench.due("byte " + i, y.byteAt(0, i), want[i]);
        }
        Used name = Scene.read("/" + "x".repeat(126) + "y").now();
        bench.due("a name's 127th", name.byteAt(0, 126), 'y');
    }

    private static void noSuchBytes() {
        for (int i : new int[] {-1, 2, 3, LOWEST, HIGHEST}) {
            bench.idle("string byte " + i, all(), NONE, x -> x.byteAt(6, i));
        }
        for (int i : new int[] {-1, 1, LOWEST, HIGHEST}) {
            bench.idle("name byte " + i, all(), NONE, x -> x.byteAt(7, i));
        }
        bench.idle("of an empty string", Scene.read("[()(a)]"), NONE, x -> x.byteAt(1, 0));
        bench.idle("of an empty name", Scene.read("[/ /a]"), NONE, x -> x.byteAt(1, 0));
        bench.idle("before the second", Scene.read("[(a)(b)]"), NONE, x -> x.byteAt(2, -1));
    }

    private static void bytesOfOthers() {
        for (int node : new int[] {0, 1, 2, 3, 4, 5, 8, 9, 11, 12}) {
            for (int i : new int[] {-1, 0, 1, HIGHEST}) {
                bench.idle("byte " + i + " of " + node, all(), NONE, x -> x.byteAt(node, i));
            }
        }
        bench.idle("of a stream", stream(), NONE, x -> x.byteAt(10, 0));
        bench.idle("of its dictionary", stream(), NONE, x -> x.byteAt(0, 0));
    }

    private static void bytesOfNone() {
        for (int node : NO_NODES) {
            bench.refused("byteAt(" + node + ", 0)", all(), Bench.OUT_OF_BOUNDS, x -> x.byteAt(node, 0));
            bench.refused("byteAt(" + node + ", -1)", all(), Bench.OUT_OF_BOUNDS, x -> x.byteAt(node, -1));
        }
    }

    private static void parts() {
        Used x = all().now();
        int[] parts = {1, 2, 3, 4, 5, 6, 7, 8, 9, 12};
        for (int i = 0; i < parts.length; i++) {
            bench.due("object " + i, x.child(0, i, false), parts[i]);
            bench.due("object " + i + ", key", x.child(0, i, true), parts[i]);
        }
        Used y = Scene.read("[[[1 2] 3] [<</A[4]>>] 5]").now();
        bench.due("behind two arrays", y.child(0, 1, false), 6);
        bench.due("behind a dictionary", y.child(0, 2, false), 11);
        bench.due("within", y.child(1, 1, false), 5);
        Used many = Scene.nodes(3990).now();
        bench.due("the last of 398", many.child(0, 397, false), 398);
        bench.due("the last of the last", many.child(3591, 397, false), 3989);
    }

    private static void sides() {
        Used x = all().now();
        bench.due("KEY", x.child(9, 0, true), 10);
        bench.due("VALUE", x.child(9, 0, false), 11);
        Used y = stream().now();
        int[] keys = {1, 3, 6, 8};
        int[] values = {2, 4, 7, 9};
        for (int i = 0; i < keys.length; i++) {
            bench.due("KEY " + i, y.child(0, i, true), keys[i]);
            bench.due("VALUE " + i, y.child(0, i, false), values[i]);
        }
        Used z = Scene.read("<</A<</B[1 2]/C 3>>/D/E>>").now();
        bench.due("behind a dictionary, KEY", z.child(0, 1, true), 9);
        bench.due("behind a dictionary, VALUE", z.child(0, 1, false), 10);
    }

    private static void whateverI() {
        for (int i : new int[] {0, 1, -1, LOWEST, HIGHEST}) {
            bench.idle("generation", all(), 9, x -> x.child(12, i, false));
            bench.idle("generation, key", all(), 9, x -> x.child(12, i, true));
            bench.idle("dictionary", stream(), 0, x -> x.child(10, i, false));
            bench.idle("dictionary, key", stream(), 0, x -> x.child(10, i, true));
        }
        bench.due("the greatest", Scene.read("0 65535 R").now().child(0, 0, false), 65535);
        bench.due("the least", Scene.read("0 0 R").now().child(0, 0, false), 0);
    }

    private static void noSuchChildren() {
        for (boolean key : new boolean[] {false, true}) {
            for (int i : new int[] {-1, 10, 11, LOWEST, HIGHEST}) {
                bench.idle("array " + i, all(), NONE, x -> x.child(0, i, key));
            }
            for (int i : new int[] {-1, 1, LOWEST, HIGHEST}) {
                bench.idle("dictionary " + i, all(), NONE, x -> x.child(9, i, key));
            }
            for (int i : new int[] {-1, 0, 1}) {
                bench.idle("empty array " + i, all(), NONE, x -> x.child(8, i, key));
                bench.idle("empty dictionary " + i, Scene.read("[<<>> 1 2]"), NONE, x -> x.child(1, i, key));
            }
            for (int node : new int[] {1, 2, 3, 4, 5, 6, 7, 10, 11}) {
                bench.idle("in " + node, all(), NONE, x -> x.child(node, 0, key));
            }
        }
    }

    private static void childOfNone() {
        for (int node : NO_NODES) {
            bench.refused("child(" + node + ")", all(), Bench.OUT_OF_BOUNDS, x -> x.child(node, 0, false));
            bench.refused("child(" + node + "), key", all(), Bench.OUT_OF_BOUNDS, x -> x.child(node, -1, true));
        }
    }

    private static void finds() {
        Used x = stream().now();
        bench.due("the last A", x.find(0, 1), 7);
        bench.due("by the other A", x.find(0, 6), 7);
        bench.due("B", x.find(0, 3), 4);
        Used y = Scene.read("[<</A 1/B 2>>/A/B/A]").now();
        bench.due("the first ENTRY", y.find(1, 6), 3);
        bench.due("the last ENTRY", y.find(1, 7), 5);
        bench.due("by another node", y.find(1, 8), 3);
        Used z = Scene.read("<</A null/A 2/B<</A 3>>/C[/A 4]>>").now();
        bench.due("the last is not null", z.find(0, 1), 4);
        bench.due("in the inner one", z.find(6, 1), 8);
    }

    private static void findsInStreams() {
        Used x = stream().now();
        bench.due("the last A", x.find(10, 1), 7);
        bench.due("B", x.find(10, 3), 4);
        bench.due("null", x.find(10, 8), NONE);
        Used y = stream().thenRead("/X").now();
        bench.due("none", y.find(10, 11), NONE);
    }

    private static void sameKeys() {
        Used x = stream().thenRead("[/#41 /a /AB /A#20 / (A) /B]").now();
        int[] want = {7, NONE, NONE, NONE, NONE, NONE, 4};
        for (int i = 0; i < want.length; i++) {
            bench.due("name " + i, x.find(0, 12 + i), want[i]);
        }
        String longer = "x".repeat(126);
        Used y = Scene.read("[<</" + longer + "y 1/ 2>>/" + longer + "y/" + longer + "z/" + longer + "/]").now();
        bench.due("127 bytes alike", y.find(1, 6), 3);
        bench.due("the 127th differs", y.find(1, 7), NONE);
        bench.due("126 of them", y.find(1, 8), NONE);
        bench.due("without bytes", y.find(1, 9), 5);
    }

    private static void findsNone() {
        bench.idle("in an empty one", Scene.read("[<<>>/A 1]"), NONE, x -> x.find(1, 2));
        bench.idle("what stands behind", Scene.read("[<</B 1>>/A 2]"), NONE, x -> x.find(1, 4));
        bench.idle("what stands before", Scene.read("[/A 2<</B 1>>]"), NONE, x -> x.find(3, 1));
        bench.idle("a VALUE", Scene.read("<</B/A/C 1>>"), NONE, x -> x.find(0, 2));
        bench.idle("what lies within", Scene.read("<</B<</A 1>>>>"), NONE, x -> x.find(0, 3));
    }

    private static void findsNull() {
        bench.idle("C", stream(), NONE, x -> x.find(0, 8));
        bench.idle("the last is null", Scene.read("<</A 1/A null>>"), NONE, x -> x.find(0, 1));
        Used x = Scene.read("<</A false/B 0/C()/D[]/E<<>>/F[null]>>").now();
        int[] keys = {1, 3, 5, 7, 9, 11};
        for (int key : keys) {
            bench.due("not null", x.find(0, key), key + 1);
        }
    }

    private static void findsInOthers() {
        for (int node : new int[] {0, 1, 2, 4, 5, 6, 7, 8, 10, 12}) {
            bench.idle("in " + node, all(), NONE, x -> x.find(node, 10));
        }
        for (int name : new int[] {0, 1, 2, 4, 5, 6, 8, 9, 12}) {
            bench.idle("by " + name, all(), NONE, x -> x.find(9, name));
        }
        bench.idle("by a stream", stream(), NONE, x -> x.find(0, 10));
        bench.idle("by a string alike", Scene.read("[<</A 1>>(A)]"), NONE, x -> x.find(1, 4));
        bench.due("by a NAME", all().now().find(9, 10), 11);
    }

    private static void findOfNone() {
        for (int node : NO_NODES) {
            bench.refused("in " + node, all(), Bench.OUT_OF_BOUNDS, x -> x.find(node, 10));
            bench.refused("by " + node, all(), Bench.OUT_OF_BOUNDS, x -> x.find(9, node));
            bench.refused("by " + node + " in null", all(), Bench.OUT_OF_BOUNDS, x -> x.find(1, node));
            bench.refused("in " + node + " by null", all(), Bench.OUT_OF_BOUNDS, x -> x.find(node, 1));
            bench.refused("neither", all(), Bench.OUT_OF_BOUNDS, x -> x.find(node, node));
        }
    }

    private static void alike(String one, String other, boolean want) {
        Used x = Scene.tape(one + " " + other).now();
        int first = x.read(0);
        int second = x.read(x.last(0));
        bench.due(one + " alike " + other, x.alike(first, second), want);
        bench.due(other + " alike " + one, x.alike(second, first), want);
        bench.due(one + " alike itself", x.alike(first, first), true);
    }

    private static void alikeEach(String... texts) {
        for (int i = 0; i < texts.length; i++) {
            for (int k = i; k < texts.length; k++) {
                alike(texts[i], texts[k], i == k);
            }
        }
    }

    private static void alikeLeaves() {
        alikeEach("null", "true", "false", "0", "1", "-1", "65536", "0.", "1.0", "-1.0", "(a)", "(b)", "(ab)",
                "(ba)", "()", "/a", "/b", "/", "[]", "<<>>", "1 0 R", "1 1 R", "2 0 R", "0 1 R");
        alike("(A\\102)", "<41 42>", true);
        alike("/A#42", "/#41B", true);
        alike("+01", "1", true);
        alike("-0", "0", true);
        alike("1.50", "+1.5", true);
        alike("99999.", "3000000000", true);
        alike("01 00 R", "1 %\n 0 R", true);
        alike("/" + "x".repeat(126) + "y", "/" + "x".repeat(126) + "z", false);
    }

    private static void alikeTrees() {
        alikeEach("[1]", "[1 2]", "[2 1]", "[[1]]", "[[] 1]", "[1 []]", "[[1] 2]", "[[1 2]]", "[[[]]]", "[[][]]",
                "<</a 1>>", "<</b 1>>", "<</a 2>>", "<</a 1/b 2>>", "<</b 2/a 1>>", "<</a 1/a 1>>", "<</a[1]>>",
                "<</a[]>>", "[/a 1]", "[1 0 R]", "[1 1 R]", "[<</a(x)>>]", "[<</a(y)>>]", "[<<>>]", "[null]");
        alike("[1 [2 (a)] <</k/v>>]", "[+1%\n[ 2 <61>]<< /#6b /v >>]", true);
        Used x = Scene.read("[[1] 2 [1] 3 [1 2]]").now();
        bench.due("what stands behind does not matter", x.alike(1, 4), true);
        bench.due("nor what is like a beginning", x.alike(1, 7), false);
        bench.due("a part and the whole", x.alike(0, 1), false);
        Used y = stream().now();
        bench.due("KEYS", y.alike(1, 6), true);
        bench.due("other KEYS", y.alike(1, 3), false);
        String deep = "[".repeat(100) + "]".repeat(100);
        alike(deep, deep, true);
        alike(deep, "[".repeat(99) + "]".repeat(99), false);
    }

    private static void alikeStreams() {
        Used x = stream().now();
        bench.due("itself", x.alike(10, 10), true);
        bench.due("its dictionary", x.alike(10, 0), false);
        bench.due("its dictionary, too", x.alike(0, 10), false);
        x.lay("  2 5 obj <</A 1/B[2]/A 3/C null>>\nstream\r\n");
        bench.due("elsewhere", x.alike(10, x.entry(0)), true);
        x.lay("1 0 obj <</A 1/B[2]/A 4/C null>>stream\n");
        bench.due("another dictionary", x.alike(10, x.entry(0)), false);
        bench.due("their dictionaries", x.alike(0, 11), true);
        Used y = Scene.entry("1 0 obj<<>>stream\n").then(Scene.entry("1 0 obj<</A 1>>stream\n")).now();
        bench.due("an empty one", y.alike(1, 5), false);
    }

    private static void alikeOfNone() {
        for (int node : NO_NODES) {
            bench.refused("one is " + node, all(), Bench.OUT_OF_BOUNDS, x -> x.alike(node, 1) ? 1 : 0);
            bench.refused("the other is " + node, all(), Bench.OUT_OF_BOUNDS, x -> x.alike(1, node) ? 1 : 0);
            bench.refused("both are " + node, all(), Bench.OUT_OF_BOUNDS, x -> x.alike(node, node) ? 1 : 0);
        }
    }

    private static void nothingChanges() {
        bench.idle("kind", Scene.ordinary(), 6, x -> x.kind(0));
        bench.idle("value", Scene.ordinary(), 2, x -> x.value(0));
        bench.idle("byteAt", Scene.ordinary(), 'o', x -> x.byteAt(1, 0));
        bench.idle("child", Scene.ordinary(), 2, x -> x.child(0, 1, false));
        bench.idle("find", stream(), 7, x -> x.find(10, 1));
        bench.idle("alike", Scene.ordinary(), 0, x -> x.alike(0, 1) ? 1 : 0);
    }
}
