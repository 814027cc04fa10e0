import java.nio.charset.StandardCharsets;

/** The tape's bound, how often an object is used, and promises 1 to 4: a new object, feed, put, cut. */
public final class TapeTest {
    private static final int NONE = SheetObjects.NONE;
    private static final int LOWEST = Integer.MIN_VALUE;
    private static final int HIGHEST = Integer.MAX_VALUE;
    private static final Bench bench = new Bench();

    public static void main(String[] args) {
        bench.sentence("An object is used for at most 512 calls", TapeTest::all512Calls);
        bench.sentence("THE TAPE has at most 65,536 bytes, at places from 0 on", TapeTest::longestTape);
        bench.sentence("1: An empty tape", TapeTest::newTape);
        bench.sentence("1: an empty store", TapeTest::newStore);
        bench.sentence("1: nothing written", TapeTest::newPage);
        bench.sentence("1: each object has its own", TapeTest::objectsAreApart);
        bench.sentence("2: Twenty bytes more on the tape, the highest of a first", TapeTest::feedOrder);
        bench.sentence("2: how many it has", TapeTest::feedAnswer);
        bench.sentence("2: not more than 65,536 are fed", TapeTest::feedUpToTheBound);
        bench.sentence("2: NONE (and nothing happens) if there would be more than 65,536",
                TapeTest::feedBeyondTheBound);
        bench.sentence("3: A byte of the tape becomes b: what it was", TapeTest::putBytes);
        bench.sentence("3: b is 0 .. 255", TapeTest::putBounds);
        bench.sentence("3: IndexOutOfBounds: there is none such", TapeTest::putNowhere);
        bench.sentence("3: IllegalArgument: b is not 0 .. 255", TapeTest::putNoByte);
        bench.sentence("3: the first exception wins", TapeTest::putNowhereNoByte);
        bench.sentence("4: Only the first bytes are left: how many are gone", TapeTest::cutBytes);
        bench.sentence("4: the others are gone", TapeTest::cutIsGone);
        bench.sentence("4: (all, if there are not more)", TapeTest::cutNothing);
        bench.sentence("4: IllegalArgument: many is below 0", TapeTest::cutBelowNothing);
        bench.end();
    }

    private static int feed(Used x, String twenty) {
        byte[] bytes = twenty.getBytes(StandardCharsets.ISO_8859_1);
        return x.feed(Used.four(bytes, 0), Used.four(bytes, 4), Used.four(bytes, 8),
                Used.four(bytes, 12), Used.four(bytes, 16));
    }

    private static void all512Calls() {
        Used fed = new Used();
        for (int i = 1; i < 512; i++) {
            fed.feed(0, 0, 0, 0, 0);
        }
        bench.due("the 512th feed", fed.feed(0, 0, 0, 0, 0), 10240);
        Used reading = Scene.tape("[(a)/b<<>>1 0 R]").now();
        while (reading.left() > 1) {
            reading.read(0);
        }
        bench.due("the 512th call reads the 509th object", reading.read(0), 508 * 5);
        Used written = Scene.read("[[[(abc)]]]").now();
        while (written.left() > 1) {
            written.write(0);
        }
        bench.due("the 512th call writes", written.write(0), 20);
    }

    private static void longestTape() {
        Used x = Scene.longest().now();
        bench.due("bytes", x.count(0), 65536);
        bench.due("the first", x.put(0, '['), '<');
        bench.due("the last", x.put(65535, ']'), '>');
        bench.throwing("none before", x, Bench.OUT_OF_BOUNDS, y -> y.put(-1, 0));
        bench.throwing("none behind", x, Bench.OUT_OF_BOUNDS, y -> y.put(65536, 0));
        bench.due("all are read", Scene.longest().now().read(0), 0);
        bench.due("its end is a place", x.read(65536), SheetObjects.ENDED);
        bench.due("its end", x.last(0), 65536);
        bench.throwing("none behind the end", x, Bench.OUT_OF_BOUNDS, y -> y.read(65537));
    }

    private static void newTape() {
        Used x = new Used();
        bench.due("bytes", x.count(0), 0);
        bench.due("cut(0)", x.cut(0), 0);
        bench.due("nothing to read", x.read(0), SheetObjects.ENDED);
        bench.due("its place", x.last(0), 0);
        bench.due("no head", x.entry(0), SheetObjects.HEAD);
        bench.refused("put(0, 0)", Scene.fresh(), Bench.OUT_OF_BOUNDS, y -> y.put(0, 0));
        bench.refused("read(1)", Scene.fresh(), Bench.OUT_OF_BOUNDS, y -> y.read(1));
        bench.refused("entry(1)", Scene.fresh(), Bench.OUT_OF_BOUNDS, y -> y.entry(1));
    }

    private static void newStore() {
        Used x = new Used();
        bench.due("nodes", x.count(1), 0);
        bench.due("bytes", x.count(2), 0);
        bench.due("objects", x.count(3), 0);
        bench.due("drop(0)", x.drop(0), 0);
        bench.refused("kind(0)", Scene.fresh(), Bench.OUT_OF_BOUNDS, y -> y.kind(0));
        bench.refused("value(0)", Scene.fresh(), Bench.OUT_OF_BOUNDS, y -> y.value(0));
        bench.refused("write(0)", Scene.fresh(), Bench.OUT_OF_BOUNDS, y -> y.write(0));
        bench.refused("alike(0, 0)", Scene.fresh(), Bench.OUT_OF_BOUNDS, y -> y.alike(0, 0) ? 1 : 0);
    }

    private static void newPage() {
        bench.idle("written(0)", Scene.fresh(), NONE, x -> x.written(0));
        bench.idle("rewind", Scene.fresh(), 0, Used::rewind);
    }

    private static void objectsAreApart() {
        Used one = Scene.ordinary().now();
        Used other = new Used();
        bench.due("bytes of another", other.count(0), 0);
        bench.due("nodes of another", other.count(1), 0);
        bench.due("written of another", other.written(0), NONE);
        bench.due("last of another", other.last(0), NONE);
        bench.due("nodes of the one", one.count(1), 3);
    }

    private static void feedOrder() {
        Used x = new Used();
        x.feed(0x80010203, 0x04050607, 0x08090A0B, 0x0C0D0E0F, 0x101112FF);
        bench.due("the highest byte of a", x.put(0, 0), 0x80);
        for (int i = 1; i < 19; i++) {
            bench.due("byte " + i, x.put(i, 0), i);
        }
        bench.due("the lowest byte of e", x.put(19, 0), 255);
        x.feed(LOWEST, HIGHEST, -1, 0, 1);
        int[] want = {128, 0, 0, 0, 127, 255, 255, 255, 255, 255, 255, 255, 0, 0, 0, 0, 0, 0, 0, 1};
        for (int i = 0; i < 20; i++) {
            bench.due("byte " + (20 + i), x.put(20 + i, 0), want[i]);
        }
    }

    private static void feedAnswer() {
        Used x = new Used();
        bench.due("the first", x.feed(0, 0, 0, 0, 0), 20);
        bench.due("the second", x.feed(0, 0, 0, 0, 0), 40);
        bench.due("counted", x.count(0), 40);
        x.cut(7);
        bench.due("behind a cut", x.feed(0, 0, 0, 0, 0), 27);
    }

    private static void feedUpToTheBound() {
        for (int bytes : new int[] {65515, 65516}) {
            Used x = Scene.longest().then(y -> y.cut(bytes)).now();
            int last = x.put(bytes - 1, 7);
            bench.due("there was a digit", Character.digit(last, 16) >= 0, true);
            bench.due("feed on " + bytes, feed(x, "abcdefghijklmnopqrst"), bytes + 20);
            bench.due("counted", x.count(0), bytes + 20);
            bench.due("the byte before", x.put(bytes - 1, 0), 7);
            bench.due("the first byte", x.put(bytes, 0), 'a');
            bench.due("the last byte", x.put(bytes + 19, 0), 't');
        }
    }

    private static void feedBeyondTheBound() {
        for (int bytes : new int[] {65517, 65536}) {
            Scene scene = Scene.longest().then(x -> x.cut(bytes));
            bench.idle("feed on " + bytes, scene, NONE, x -> feed(x, "abcdefghijklmnopqrst"));
        }
        Used x = Scene.longest().now();
        bench.due("refused", x.feed(0, 0, 0, 0, 0), NONE);
        x.cut(65516);
        bench.due("there is room again", x.feed(0, 0, 0, 0, 0), 65536);
    }

    private static void putBytes() {
        Used x = Scene.tape("abc").now();
        bench.due("the first", x.put(0, 'x'), 'a');
        bench.due("the last", x.put(2, 'z'), 'c');
        bench.due("the first again", x.put(0, 'p'), 'x');
        bench.due("the last again", x.put(2, 'q'), 'z');
        bench.due("the other stays", x.put(1, 'y'), 'b');
        bench.due("as many as before", x.count(0), 3);
        Used y = Scene.tape("(a)").now();
        y.put(1, 'b');
        bench.due("what is read", y.bytes(y.read(0)), "b");
        y.put(1, 'c');
        bench.due("nodes stay", y.byteAt(0, 0), 'b');
    }

    private static void putBounds() {
        Used x = Scene.tape("a").now();
        bench.due("0", x.put(0, 0), 'a');
        bench.due("255", x.put(0, 255), 0);
        bench.due("128", x.put(0, 128), 255);
        bench.due("127", x.put(0, 127), 128);
        bench.due("it was 127", x.put(0, 0), 127);
    }

    private static void putNowhere() {
        for (int i : new int[] {-1, 13, LOWEST, HIGHEST}) {
            bench.refused("put at " + i, Scene.ordinary(), Bench.OUT_OF_BOUNDS, x -> x.put(i, 1));
        }
        Scene cut = Scene.ordinary().then(x -> x.cut(5));
        bench.refused("put where it was cut", cut, Bench.OUT_OF_BOUNDS, x -> x.put(5, 1));
        bench.due("put at the last place", cut.now().put(4, 1), ' ');
        Scene none = Scene.ordinary().then(x -> x.cut(0));
        bench.refused("put where nothing is", none, Bench.OUT_OF_BOUNDS, x -> x.put(0, 1));
    }

    private static void putNoByte() {
        for (int b : new int[] {-1, 256, LOWEST, HIGHEST}) {
            bench.refused("put of " + b, Scene.ordinary(), Bench.ILLEGAL, x -> x.put(0, b));
            bench.refused("put of " + b, Scene.ordinary(), Bench.ILLEGAL, x -> x.put(12, b));
        }
    }

    private static void putNowhereNoByte() {
        for (int i : new int[] {-1, 13, LOWEST, HIGHEST}) {
            bench.refused("put at " + i, Scene.ordinary(), Bench.OUT_OF_BOUNDS, x -> x.put(i, 256));
            bench.refused("put at " + i, Scene.ordinary(), Bench.OUT_OF_BOUNDS, x -> x.put(i, -1));
        }
    }

    private static void cutBytes() {
        Used x = Scene.tape("abcdef").now();
        bench.due("all but one", x.cut(5), 1);
        bench.due("five are left", x.count(0), 5);
        bench.due("the last of them", x.put(4, 'e'), 'e');
        bench.due("one", x.cut(1), 4);
        bench.due("the first is left", x.put(0, 'a'), 'a');
        bench.due("none", x.cut(0), 1);
        bench.due("nothing is left", x.count(0), 0);
        bench.due("65,536 bytes", Scene.longest().now().cut(0), 65536);
        bench.due("65,535 of them", Scene.longest().now().cut(1), 65535);
    }

    private static void cutIsGone() {
        Scene cut = Scene.tape("[1 2]").then(x -> x.cut(4));
        Used x = cut.now();
        bench.due("a reading ends", x.read(0), SheetObjects.ENDED);
        bench.due("at the new end", x.last(0), 4);
        bench.refused("no place behind it", cut, Bench.OUT_OF_BOUNDS, y -> y.read(5));
        Used fed = cut.now();
        fed.feed(0x20335D20, 0, 0, 0, 0);
        bench.due("what is fed follows", fed.text(fed.read(0)), "[ 1 2 3 ]");
        Used kept = Scene.read("[(a)]").then(y -> y.write(0)).now();
        kept.cut(0);
        bench.due("nodes stay", kept.count(1), 2);
        bench.due("what was written stays", kept.page(), "[ <61> ]");
    }

    private static void cutNothing() {
        for (int many : new int[] {13, 14, HIGHEST}) {
            bench.idle("cut(" + many + ") of 13", Scene.ordinary(), 0, x -> x.cut(many));
        }
        for (int many : new int[] {0, 1, HIGHEST}) {
            bench.idle("cut(" + many + ") of none", Scene.fresh(), 0, x -> x.cut(many));
        }
    }

    private static void cutBelowNothing() {
        for (int many : new int[] {-1, LOWEST}) {
            bench.refused("cut(" + many + ")", Scene.ordinary(), Bench.ILLEGAL, x -> x.cut(many));
            bench.refused("cut(" + many + ") of none", Scene.fresh(), Bench.ILLEGAL, x -> x.cut(many));
        }
    }
}
