/** Promises 17 and 18: drop, count. */
public final class DropTest {
    private static final Bench bench = new Bench();

    public static void main(String[] args) {
        dropsWholeObjects();
        droppedBeginningsAreForgotten();
        streamsAreOne();
        roomIsThereAgain();
        counts();
        bench.end();
    }

    private static void counted(String what, SheetObjects x, int nodes, int bytes, int objects) {
        bench.due(what + " nodes", x.count(1), nodes);
        bench.due(what + " bytes", x.count(2), bytes);
        bench.due(what + " objects", x.count(3), objects);
    }

    /** Objects at 0 (five nodes), 5 (one) and 6 (three); 3, 1 and 4 bytes. */
    private static SheetObjects three() {
        SheetObjects x = Bench.load("[(ab) <</K 1>>] /N [(wxyz) true]");
        x.read(0);
        x.read(15);
        x.read(18);
        return x;
    }

    private static void dropsWholeObjects() {
        SheetObjects x = three();
        counted("three", x, 9, 8, 3);
        for (int many : new int[] {1, 2, 3, 4, 7, 8}) {
            bench.illegal("in the midst " + many, () -> x.drop(many));
        }
        bench.illegal("drop(-1)", () -> x.drop(-1));
        bench.illegal("drop of the lowest", () -> x.drop(Integer.MIN_VALUE));
        bench.due("drop(9)", x.drop(9), 0);
        bench.due("drop(10)", x.drop(10), 0);
        bench.due("drop of the highest", x.drop(Integer.MAX_VALUE), 0);
        counted("still three", x, 9, 8, 3);
        bench.due("drop(6)", x.drop(6), 3);
        counted("two", x, 6, 4, 2);
        bench.due("drop(6) again", x.drop(6), 0);
        bench.due("drop(7), beyond all", x.drop(7), 0);
        bench.due("drop(5)", x.drop(5), 1);
        counted("one", x, 5, 3, 1);
        bench.due("it is left whole", Bench.writing(x, 0), "[ <6162> << /K 1 >> ]");
        bench.due("drop(0)", x.drop(0), 5);
        counted("none", x, 0, 0, 0);
        bench.due("drop(0) of nothing", x.drop(0), 0);
        SheetObjects y = three();
        bench.due("drop two at once", y.drop(5), 4);
        counted("one of three", y, 5, 3, 1);
        bench.due("and read again", y.read(18), 5);
        bench.due("its bytes", Bench.bytes(y, 6), "wxyz");
        counted("two again", y, 8, 7, 2);
    }

    private static void droppedBeginningsAreForgotten() {
        SheetObjects x = Bench.load("[1 2] 3 [4 5 6]");
        x.read(0);
        x.read(5);
        x.read(7);
        bench.due("drop the last two", x.drop(3), 5);
        bench.due("an array instead", x.read(7), 3);
        bench.illegal("where one began", () -> x.drop(4));
        bench.due("drop all", x.drop(0), 7);
        bench.due("the long one first", x.read(7), 0);
        bench.illegal("where the second began", () -> x.drop(3));
    }

    private static void streamsAreOne() {
        SheetObjects x = Bench.load("1 0 obj<</A(b)>>stream\n");
        x.entry(0);
        x.entry(0);
        counted("streams", x, 8, 4, 2);
        for (int many : new int[] {1, 2, 3, 5, 6, 7}) {
            bench.illegal("in a stream " + many, () -> x.drop(many));
        }
        bench.due("drop(4)", x.drop(4), 4);
        counted("one stream", x, 4, 2, 1);
        bench.illegal("before its own node", () -> x.drop(3));
        bench.due("drop(0)", x.drop(0), 4);
    }

    private static void roomIsThereAgain() {
        SheetObjects x = Bench.load("[" + "1 ".repeat(398) + "]");
        for (int i = 0; i < 10; i++) {
            x.read(0);
        }
        bench.due("ten arrays", x.count(1), 3990);
        bench.due("no room", x.read(0), SheetObjects.FULL);
        bench.due("drop one", x.drop(3591), 399);
        bench.due("room", x.read(0), 3591);
        SheetObjects y = Long65536.literal(32768);
        y.read(0);
        bench.due("no room for bytes", y.read(0), SheetObjects.FULL);
        bench.due("drop it", y.drop(0), 1);
        bench.due("room for bytes", y.read(0), 0);
    }

    private static void counts() {
        SheetObjects x = three();
        bench.due("count(0)", x.count(0), 32);
        bench.due("count(4)", x.count(4), SheetObjects.NONE);
        bench.due("count(-1)", x.count(-1), SheetObjects.NONE);
        bench.due("count of the highest", x.count(Integer.MAX_VALUE), SheetObjects.NONE);
        bench.due("count of the lowest", x.count(Integer.MIN_VALUE), SheetObjects.NONE);
        x.read(1);
        counted("a string more", x, 10, 10, 4);
        x.cut(0);
        bench.due("nothing on the tape", x.count(0), 0);
        counted("the store stays", x, 10, 10, 4);
    }
}
