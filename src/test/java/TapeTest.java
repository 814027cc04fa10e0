/** Promises 1 to 4: a new object, feed, put, cut. */
public final class TapeTest {
    private static final Bench bench = new Bench();

    public static void main(String[] args) {
        newObjectIsEmpty();
        feedAddsTwentyBytes();
        feedStopsAtTheTapesEnd();
        putChangesOneByte();
        cutKeepsTheFirstBytes();
        bench.end();
    }

    private static void newObjectIsEmpty() {
        SheetObjects x = new SheetObjects();
        bench.due("new: bytes", x.count(0), 0);
        bench.due("new: nodes", x.count(1), 0);
        bench.due("new: node bytes", x.count(2), 0);
        bench.due("new: objects", x.count(3), 0);
        bench.due("new: written", x.written(0), SheetObjects.NONE);
        bench.due("new: last", x.last(0), SheetObjects.NONE);
        bench.due("new: last number", x.last(1), SheetObjects.NONE);
        bench.due("new: last generation", x.last(2), SheetObjects.NONE);
        bench.due("new: rewind", x.rewind(), 0);
        bench.outOfBounds("new: kind(0)", () -> x.kind(0));
        bench.outOfBounds("new: put(0, 0)", () -> x.put(0, 0));
    }

    private static void feedAddsTwentyBytes() {
        SheetObjects x = new SheetObjects();
        bench.due("feed", x.feed(0x80010203, 0x04050607, 0x08090A0B, 0x0C0D0E0F, 0x101112FF), 20);
        bench.due("feed: first byte", x.put(0, 0), 0x80);
        for (int i = 1; i < 19; i++) {
            bench.due("feed: byte " + i, x.put(i, 0), i);
        }
        bench.due("feed: last byte", x.put(19, 0), 255);
        bench.due("feed again", x.feed(-1, 0, 0, 0, 0), 40);
        bench.due("feed again: first byte", x.put(20, 0), 255);
        bench.due("feed again: count", x.count(0), 40);
    }

    private static void feedStopsAtTheTapesEnd() {
        SheetObjects x = Long65536.tape();
        bench.due("longest tape", x.count(0), 65536);
        bench.due("feed on the longest tape", x.feed(0, 0, 0, 0, 0), SheetObjects.NONE);
        bench.due("it stays", x.count(0), 65536);
        bench.due("its last byte stays", x.put(65535, '>'), '>');
        bench.due("cut to 65,517", x.cut(65517), 19);
        bench.due("one byte too many", x.feed(0, 0, 0, 0, 0), SheetObjects.NONE);
        bench.due("it stays, too", x.count(0), 65517);
        bench.due("cut to 65,516", x.cut(65516), 1);
        bench.due("just enough room", x.feed(0, 0, 0, 0, 7), 65536);
        bench.due("the last byte", x.put(65535, 0), 7);
    }

    private static void putChangesOneByte() {
        SheetObjects x = Bench.load("abc");
        bench.due("put", x.put(1, 255), 'b');
        bench.due("put again", x.put(1, 0), 255);
        bench.due("put: the one before", x.put(0, 'a'), 'a');
        bench.due("put: the one behind", x.put(2, 'c'), 'c');
        bench.due("put: count", x.count(0), 3);
        bench.outOfBounds("put(-1, 1)", () -> x.put(-1, 1));
        bench.outOfBounds("put(3, 1)", () -> x.put(3, 1));
        bench.outOfBounds("the place is told first", () -> x.put(3, 256));
        bench.outOfBounds("the lowest place", () -> x.put(Integer.MIN_VALUE, -1));
        bench.outOfBounds("the highest place", () -> x.put(Integer.MAX_VALUE, 1));
        bench.illegal("put(0, 256)", () -> x.put(0, 256));
        bench.illegal("put(0, -1)", () -> x.put(0, -1));
        bench.due("nothing was put", x.put(0, 'a'), 'a');
    }

    private static void cutKeepsTheFirstBytes() {
        SheetObjects x = Bench.load("abcdef");
        bench.due("cut(4)", x.cut(4), 2);
        bench.due("cut(4) again", x.cut(4), 0);
        bench.due("cut more than there are", x.cut(Integer.MAX_VALUE), 0);
        bench.due("count", x.count(0), 4);
        bench.illegal("cut(-1)", () -> x.cut(-1));
        bench.illegal("cut of the lowest", () -> x.cut(Integer.MIN_VALUE));
        bench.due("count stays", x.count(0), 4);
        bench.outOfBounds("what is cut is gone", () -> x.put(4, 1));
        bench.due("the last one is left", x.put(3, 'd'), 'd');
        bench.due("cut(0)", x.cut(0), 4);
        bench.due("nothing is left", x.count(0), 0);
        bench.due("cut(0) of nothing", x.cut(0), 0);
    }
}
