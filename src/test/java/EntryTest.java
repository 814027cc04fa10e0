/** Promises 6 and 7: indirect objects and streams, and what last tells of them. */
public final class EntryTest {
    private static final Bench bench = new Bench();

    public static void main(String[] args) {
        objects();
        streams();
        wrongHeads();
        wrongObjects();
        wrongBodies();
        wrongStreams();
        fullStreams();
        places();
        bench.end();
    }

    private static void tells(String what, SheetObjects x, int place, int number, int generation) {
        bench.due(what + " place", x.last(0), place);
        bench.due(what + " number", x.last(1), number);
        bench.due(what + " generation", x.last(2), generation);
    }

    /** A fault; the store, which had one object before, stays. */
    private static void fault(String text, int answer, int place, int number, int generation) {
        SheetObjects x = Bench.load("9 9 obj [(one) /two] endobj");
        x.entry(0);
        Bench.lay(x, text);
        bench.due(text, x.entry(0), answer);
        tells(text, x, place, number, generation);
        bench.due(text + " nodes", x.count(1), 3);
        bench.due(text + " bytes", x.count(2), 6);
        bench.due(text + " objects", x.count(3), 1);
    }

    private static void object(String text, int place, int number, int generation, String written) {
        SheetObjects x = Bench.load("true");
        x.read(0);
        Bench.lay(x, text);
        bench.due(text, x.entry(0), 1);
        tells(text, x, place, number, generation);
        bench.due(text + " objects", x.count(3), 2);
        bench.due(text + " written", Bench.writing(x, 1), written);
    }

    private static void objects() {
        object("1 0 obj null endobj", 19, 1, 0, "null");
        object("%c\n0 65535%\robj[1 2]endobj ", 26, 0, 65535, "[ 1 2 ]");
        object("008388607 0007 obj<<>>endobj<<", 28, 8388607, 7, "<< >>");
        object("1 2 obj 5 0 R endobj", 20, 1, 2, "5 0 R");
        object("1 2 obj 5 endobj", 16, 1, 2, "5");
        object("1 2 obj(a)endobj", 16, 1, 2, "<61>");
        object("1 2 obj/endobj endobj", 21, 1, 2, "/endobj");
    }

    private static void streams() {
        SheetObjects x = Bench.load("3 4 obj <</A 1>> stream\nbytes endstream");
        bench.due("stream", x.entry(0), 3);
        tells("stream", x, 24, 3, 4);
        bench.due("stream kind", x.kind(3), 9);
        bench.due("stream value", x.value(3), 24);
        bench.due("stream child", x.child(3, -5, true), 0);
        bench.due("stream nodes", x.count(1), 4);
        bench.due("stream objects", x.count(3), 1);
        Bench.lay(x, "1 0 obj<<>>%\nstream\r\n");
        bench.due("13 and 10", x.entry(0), 5);
        tells("13 and 10", x, 21, 1, 0);
        bench.due("its value", x.value(5), 21);
        bench.due("its dictionary", x.child(5, 0, false), 4);
    }

    private static void wrongHeads() {
        fault("", SheetObjects.HEAD, 0, 0, 0);
        fault(" % ", SheetObjects.HEAD, 3, 0, 0);
        fault(" x 0 obj", SheetObjects.HEAD, 1, 0, 0);
        fault("8388608 0 obj 1 endobj", SheetObjects.HEAD, 0, 0, 0);
        fault("+1 0 obj 1 endobj", SheetObjects.HEAD, 0, 0, 0);
        fault("-1 0 obj 1 endobj", SheetObjects.HEAD, 0, 0, 0);
        fault("1.0 0 obj 1 endobj", SheetObjects.HEAD, 0, 0, 0);
        fault("99999999999999999999 0 obj 1 endobj", SheetObjects.HEAD, 0, 0, 0);
        fault("(abc", SheetObjects.HEAD, 0, 0, 0);
        fault("<x>", SheetObjects.HEAD, 0, 0, 0);
        fault("/#00", SheetObjects.HEAD, 0, 0, 0);
        fault("[1]", SheetObjects.HEAD, 0, 0, 0);
        fault("12 ", SheetObjects.HEAD, 3, 12, 0);
        fault("12 65536 obj", SheetObjects.HEAD, 3, 12, 0);
        fault("12 obj", SheetObjects.HEAD, 3, 12, 0);
        fault("12[", SheetObjects.HEAD, 2, 12, 0);
        fault("12 65535", SheetObjects.HEAD, 8, 12, 65535);
        fault("12 7 Obj 1 endobj", SheetObjects.HEAD, 5, 12, 7);
        fault("12 7 obj1 endobj", SheetObjects.HEAD, 5, 12, 7);
        fault("12 7 R endobj", SheetObjects.HEAD, 5, 12, 7);
        fault("12 7 (obj", SheetObjects.HEAD, 5, 12, 7);
    }

    private static void wrongObjects() {
        fault("1 2 obj", SheetObjects.ENDED, 7, 1, 2);
        fault("1 2 obj ", SheetObjects.ENDED, 8, 1, 2);
        fault("1 2 obj [(a) (", SheetObjects.ENDED, 14, 1, 2);
        fault("1 2 obj endobj", SheetObjects.TOKEN, 8, 1, 2);
        fault("1 2 obj [<x>]", SheetObjects.STRING, 9, 1, 2);
        fault("1 2 obj /#00", SheetObjects.NAME, 8, 1, 2);
        fault("1 2 obj <<1", SheetObjects.KEY, 10, 1, 2);
        fault("1 2 obj" + "[".repeat(101), SheetObjects.DEEP, 107, 1, 2);
    }

    private static void wrongBodies() {
        fault("1 2 obj 5", SheetObjects.BODY, 9, 1, 2);
        fault("1 2 obj 5 % endobj", SheetObjects.BODY, 18, 1, 2);
        fault("1 2 obj <<>> ", SheetObjects.BODY, 13, 1, 2);
        fault("1 2 obj 5 0 endobj", SheetObjects.BODY, 10, 1, 2);
        fault("1 2 obj 5 stream\n", SheetObjects.BODY, 10, 1, 2);
        fault("1 2 obj [<<>>] stream\n", SheetObjects.BODY, 15, 1, 2);
        fault("1 2 obj <<>> streams\n", SheetObjects.BODY, 13, 1, 2);
        fault("1 2 obj <<>> endobjx", SheetObjects.BODY, 13, 1, 2);
        fault("1 2 obj 5 (a", SheetObjects.BODY, 10, 1, 2);
        fault("1 2 obj 5 <x>", SheetObjects.BODY, 10, 1, 2);
        fault("1 2 obj <<>>]", SheetObjects.BODY, 12, 1, 2);
    }

    private static void wrongStreams() {
        fault("1 2 obj <<>> stream", SheetObjects.STREAM, 13, 1, 2);
        fault("1 2 obj <<>> stream \n", SheetObjects.STREAM, 13, 1, 2);
        fault("1 2 obj <<>> stream\r", SheetObjects.STREAM, 13, 1, 2);
        fault("1 2 obj <<>> stream\rx\n", SheetObjects.STREAM, 13, 1, 2);
        fault("1 2 obj <<>>stream%\n", SheetObjects.STREAM, 12, 1, 2);
        fault("1 2 obj <</A(a)>>stream[", SheetObjects.STREAM, 17, 1, 2);
    }

    private static void fullStreams() {
        SheetObjects x = Bench.load("[" + "1 ".repeat(398) + "]");
        for (int i = 0; i < 10; i++) {
            x.read(0);
        }
        Bench.lay(x, "[1 1 1 1 1 1 1 1]");
        x.read(0);
        bench.due("3999 nodes", x.count(1), 3999);
        Bench.lay(x, "1 2 obj <<>> stream\n");
        bench.due("no room for a stream", x.entry(0), SheetObjects.FULL);
        tells("no room for a stream", x, 13, 1, 2);
        bench.due("3999 nodes stay", x.count(1), 3999);
        bench.due("objects stay", x.count(3), 11);
        Bench.lay(x, "1 2 obj <<>> stream ");
        bench.due("STREAM before FULL", x.entry(0), SheetObjects.STREAM);
        Bench.lay(x, "1 2 obj <</A 1>> stream\n");
        bench.due("no room in the object", x.entry(0), SheetObjects.FULL);
        tells("no room in the object", x, 10, 1, 2);
        Bench.lay(x, "1 2 obj <<>> endobj");
        bench.due("room for a dictionary", x.entry(0), 3999);
    }

    private static void places() {
        SheetObjects x = Bench.load("xx 1 0 obj 5 endobj");
        bench.outOfBounds("entry(-1)", () -> x.entry(-1));
        bench.outOfBounds("entry(20)", () -> x.entry(20));
        bench.due("none yet", x.last(1), SheetObjects.NONE);
        bench.due("entry(2)", x.entry(2), 0);
        tells("entry(2)", x, 19, 1, 0);
        bench.outOfBounds("entry of the highest", () -> x.entry(Integer.MAX_VALUE));
        tells("it stays", x, 19, 1, 0);
        bench.due("entry(19)", x.entry(19), SheetObjects.HEAD);
        tells("entry(19)", x, 19, 0, 0);
    }
}
