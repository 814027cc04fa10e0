/** Promises 17 and 18: drop, count. */
public final class DropTest {
    private static final int NONE = SheetObjects.NONE;
    private static final int LOWEST = Integer.MIN_VALUE;
    private static final int HIGHEST = Integer.MAX_VALUE;
    private static final Bench bench = new Bench();

    public static void main(String[] args) {
        bench.sentence("17: Only the first nodes are left, and their bytes: how many are gone", DropTest::drops);
        bench.sentence("17: (0 if there are not more)", DropTest::dropsNothing);
        bench.sentence("17: IllegalArgument: many is below 0", DropTest::dropBelowNothing);
        bench.sentence("17: IllegalArgument: less than all and in the midst of an object", DropTest::dropInTheMidst);
        bench.sentence("17: (a stream's node and all of its DICTIONARY are one)", DropTest::streamsAreOne);
        bench.sentence("17: an object that was dropped is none", DropTest::beginningsAreForgotten);
        bench.sentence("17: there is room again", DropTest::roomAgain);
        bench.sentence("17: tape, what was written and last stay", DropTest::othersStay);
        bench.sentence("18: 0 bytes on the tape", DropTest::countBytes);
        bench.sentence("18: 1 nodes", DropTest::countNodes);
        bench.sentence("18: 2 bytes of STRINGS and NAMES", DropTest::countNodeBytes);
        bench.sentence("18: 3 objects that were read and are left", DropTest::countObjects);
        bench.sentence("18: NONE for another what", DropTest::countAnotherWhat);
        bench.end();
    }

    /** Objects at 0 (five nodes), 5 (one) and 6 (three); 3, 1 and 4 bytes; something is written. */
    private static Scene three() {
        return Scene.tape("[(ab) <</K 1>>] /N [(wxyz) true]").then(x -> {
            x.read(0);
            x.read(15);
            x.read(18);
            x.write(5);
        });
    }

    private static void counted(String what, Used x, int nodes, int bytes, int objects) {
        bench.due(what + " nodes", x.count(1), nodes);
        bench.due(what + " bytes", x.count(2), bytes);
        bench.due(what + " objects", x.count(3), objects);
    }

    private static void drops() {
        Used x = three().now();
        counted("three", x, 9, 8, 3);
        bench.due("the last object", x.drop(6), 3);
        counted("two", x, 6, 4, 2);
        bench.throwing("it is gone", x, Bench.OUT_OF_BOUNDS, y -> y.kind(6));
        bench.due("the next one", x.drop(5), 1);
        counted("one", x, 5, 3, 1);
        bench.due("it is left whole", x.text(0), "[ <6162> << /K 1 >> ]");
        bench.due("all", x.drop(0), 5);
        counted("none", x, 0, 0, 0);
        Used y = three().now();
        bench.due("two at once", y.drop(5), 4);
        counted("one of three", y, 5, 3, 1);
        bench.due("read again", y.read(18), 5);
        bench.due("its bytes", y.bytes(6), "wxyz");
        counted("two again", y, 8, 7, 2);
        bench.due("all at once", three().now().drop(0), 9);
        bench.due("4000 nodes", Scene.nodes(4000).now().drop(0), 4000);
        bench.due("all but the first", Scene.nodes(4000).now().drop(399), 3601);
    }

    private static void dropsNothing() {
        for (int many : new int[] {9, 10, 4000, HIGHEST}) {
            bench.idle("drop(" + many + ") of 9", three(), 0, x -> x.drop(many));
        }
        for (int many : new int[] {0, 1, HIGHEST}) {
            bench.idle("drop(" + many + ") of none", Scene.tape("[1 2]"), 0, x -> x.drop(many));
        }
        bench.idle("twice", three().then(x -> x.drop(6)), 0, x -> x.drop(6));
        bench.idle("where one went on before", three().then(x -> x.drop(6)), 0, x -> x.drop(7));
        bench.idle("all of a full store", Scene.nodes(4000), 0, x -> x.drop(4000));
    }

    private static void dropBelowNothing() {
        for (int many : new int[] {-1, LOWEST}) {
            bench.refused("drop(" + many + ")", three(), Bench.ILLEGAL, x -> x.drop(many));
            bench.refused("drop(" + many + ") of none", Scene.fresh(), Bench.ILLEGAL, x -> x.drop(many));
        }
    }

    private static void dropInTheMidst() {
        for (int many : new int[] {1, 2, 3, 4, 7, 8}) {
            bench.refused("drop(" + many + ")", three(), Bench.ILLEGAL, x -> x.drop(many));
        }
        for (int many : new int[] {1, 398, 400, 3989, 3991, 3999}) {
            bench.refused("drop(" + many + ")", Scene.nodes(4000), Bench.ILLEGAL, x -> x.drop(many));
        }
        bench.due("between two of them", Scene.nodes(4000).now().drop(3990), 10);
    }

    private static void streamsAreOne() {
        Scene two = Scene.tape("1 0 obj<</A(b)>>stream\n").then(x -> {
            x.entry(0);
            x.entry(0);
        });
        for (int many : new int[] {1, 2, 3, 5, 6, 7}) {
            bench.refused("drop(" + many + ")", two, Bench.ILLEGAL, x -> x.drop(many));
        }
        Used x = two.now();
        counted("two streams", x, 8, 4, 2);
        bench.due("drop(8)", x.drop(8), 0);
        bench.due("drop(4)", x.drop(4), 4);
        counted("one stream", x, 4, 2, 1);
        bench.due("it is left whole", x.find(3, 1), 2);
        bench.due("drop(0)", x.drop(0), 4);
        counted("none", x, 0, 0, 0);
        Scene empty = Scene.entry("1 0 obj<<>>stream\n");
        bench.refused("behind an empty dictionary", empty, Bench.ILLEGAL, y -> y.drop(1));
    }

    private static void beginningsAreForgotten() {
        Scene scene = Scene.tape("[1 2] 3 [4 5 6]").then(x -> {
            x.read(0);
            x.read(5);
            x.read(7);
            x.drop(3);
            x.read(7);
        });
        bench.refused("where one began", scene, Bench.ILLEGAL, x -> x.drop(4));
        Scene other = scene.then(x -> x.drop(0)).then(x -> x.read(7));
        bench.refused("where another began", other, Bench.ILLEGAL, x -> x.drop(3));
        Scene wrong = three().thenRead("[1 2 x]").thenRead("[1 2]");
        bench.refused("where a fault was", wrong, Bench.ILLEGAL, x -> x.drop(10));
        bench.due("behind a fault", wrong.now().drop(9), 3);
    }

    private static void roomAgain() {
        Used x = Scene.nodes(4000).thenTape("1").now();
        bench.due("no room", x.read(0), SheetObjects.FULL);
        bench.due("drop the last", x.drop(3990), 10);
        bench.due("room", x.read(0), 3990);
        Used y = Scene.literal(32768).now();
        y.read(0);
        bench.due("no room for bytes", y.read(0), SheetObjects.FULL);
        bench.due("drop it", y.drop(0), 1);
        bench.due("room for bytes", y.read(0), 0);
    }

    private static void othersStay() {
        Scene first = Scene.tape("[(ab) <</K 1>>] /N").then(x -> x.read(0));
        Scene second = first.then(x -> x.read(15)).then(x -> x.drop(5));
        bench.due("as if there had been no second", State.besideLatest(second), State.besideLatest(first));
        Used x = three().then(y -> y.drop(0)).now();
        bench.due("tape", x.count(0), 32);
        bench.due("written", x.page(), "/N");
        bench.tells("last", x, 32, 0, 0);
    }

    private static void countBytes() {
        bench.idle("a new object", Scene.fresh(), 0, x -> x.count(0));
        bench.idle("a tape", Scene.ordinary(), 13, x -> x.count(0));
        bench.due("fed", Scene.fresh().then(x -> x.feed(0, 0, 0, 0, 0)).now().count(0), 20);
        bench.due("cut", Scene.ordinary().then(x -> x.cut(5)).now().count(0), 5);
        bench.due("rewound", Scene.ordinary().then(Used::rewind).now().count(0), 17);
        bench.due("the most", Scene.longest().now().count(0), 65536);
        bench.due("read", Scene.ordinary().then(x -> x.read(0)).now().count(0), 13);
    }

    private static void countNodes() {
        bench.idle("a new object", Scene.fresh(), 0, x -> x.count(1));
        bench.idle("some", Scene.ordinary(), 3, x -> x.count(1));
        bench.due("the most", Scene.nodes(4000).now().count(1), 4000);
        bench.due("a stream's too", Scene.entry("1 0 obj<<>>stream\n").now().count(1), 2);
        bench.due("none of what is wrong", Scene.read("[1 2 x]").now().count(1), 0);
        bench.due("dropped", three().then(x -> x.drop(5)).now().count(1), 5);
    }

    private static void countNodeBytes() {
        bench.idle("a new object", Scene.fresh(), 0, x -> x.count(2));
        bench.idle("strings and names", Scene.ordinary(), 6, x -> x.count(2));
        bench.due("the most", Scene.bytes(32768).now().count(2), 32768);
        bench.due("keys too", Scene.read("<</Key(value)>>").now().count(2), 8);
        bench.due("resolved", Scene.read("[(\\101\\\n)/#41]").now().count(2), 2);
        bench.due("none of others", Scene.read("[1 2.5 3 0 R null true]").now().count(2), 0);
        bench.due("none of what is wrong", Scene.read("[(a)/b x]").now().count(2), 0);
        bench.due("dropped", three().then(x -> x.drop(5)).now().count(2), 3);
    }

    private static void countObjects() {
        bench.idle("a new object", Scene.fresh(), 0, x -> x.count(3));
        bench.idle("three", three(), 3, x -> x.count(3));
        bench.due("dropped", three().then(x -> x.drop(6)).now().count(3), 2);
        bench.due("entries", Scene.entry("1 0 obj 5 endobj").now().count(3), 1);
        bench.due("a stream is one", Scene.entry("1 0 obj<<>>stream\n").now().count(3), 1);
        bench.due("none of what is wrong", three().thenRead("[1 x]").now().count(3), 3);
        bench.due("none of a wrong entry", three().then(Scene.entry("1 0 obj 5")).now().count(3), 3);
        Used x = Scene.tape("1").now();
        while (x.left() > 1) {
            x.read(0);
        }
        bench.due("as many as calls", x.count(3), 508);
    }

    private static void countAnotherWhat() {
        for (int what : new int[] {-1, 4, LOWEST, HIGHEST}) {
            bench.idle("count(" + what + ")", three(), NONE, x -> x.count(what));
        }
    }
}
