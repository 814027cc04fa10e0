/** Promises 6 and 7: entry, and what last tells of the latest read or entry. */
public final class EntryTest {
    private static final int NONE = SheetObjects.NONE;
    private static final int HEAD = SheetObjects.HEAD;
    private static final int BODY = SheetObjects.BODY;
    private static final Bench bench = new Bench();

    public static void main(String[] args) {
        bench.sentence("6: READING an indirect object: its node", EntryTest::objects);
        bench.sentence("6: two WORDS as those of a REFERENCE", EntryTest::edgesOfHeads);
        bench.sentence("6: HEAD, at the first token that is none of these: the number", EntryTest::wrongNumbers);
        bench.sentence("6: HEAD, at the first token that is none of these: the generation",
                EntryTest::wrongGenerations);
        bench.sentence("6: HEAD, at the first token that is none of these: obj", EntryTest::wrongObj);
        bench.sentence("6: an object; or what is wrong", EntryTest::wrongObjects);
        bench.sentence("6: BODY, at that token, if it is neither", EntryTest::wrongBodies);
        bench.sentence("6: stream behind a DICTIONARY alone", EntryTest::streamsBehindOthers);
        bench.sentence("6: ENDED only within the object", EntryTest::endedWithin);
        bench.sentence("6: Behind stream must directly come 10, or 13 and 10", EntryTest::streamLines);
        bench.sentence("6: STREAM, at that token", EntryTest::wrongStreams);
        bench.sentence("6: the node of a stream, one more, is answered", EntryTest::streamNodes);
        bench.sentence("6: FULL, at that token", EntryTest::fullStreams);
        bench.sentence("6: FULL behind STREAM, and behind BODY", EntryTest::fullIsLast);
        bench.sentence("6: The store is then as it was", EntryTest::storeAsItWas);
        bench.sentence("6: the place is 0 .. the number of bytes", EntryTest::edgePlaces);
        bench.sentence("6: IndexOutOfBounds, as before", EntryTest::noPlaces);
        bench.sentence("7: NONE if there was none", EntryTest::lastOfNone);
        bench.sentence("7: NONE for another what", EntryTest::lastOfAnotherWhat);
        bench.sentence("7: the place behind what was read (of a stream where its bytes begin)",
                EntryTest::placeBehind);
        bench.sentence("7: or of the token at which something was wrong", EntryTest::placeOfFault);
        bench.sentence("7: its number, its generation: as far as read, else 0", EntryTest::asFarAsRead);
        bench.sentence("7: read: 0", EntryTest::readTellsNoNumber);
        bench.sentence("7: Of the latest read or entry", EntryTest::latest);
        bench.end();
    }

    private static void object(String text, int place, int number, int generation, String written) {
        Used x = Scene.read("true").thenTape(text).now();
        bench.due(text, x.entry(0), 1);
        bench.tells(text, x, place, number, generation);
        bench.due(text + " objects", x.count(3), 2);
        bench.due(text + " written", x.text(1), written);
    }

    private static void objects() {
        object("1 0 obj null endobj", 19, 1, 0, "null");
        object("1 2 obj 5 endobj", 16, 1, 2, "5");
        object("1 2 obj(a)endobj", 16, 1, 2, "<61>");
        object("1 2 obj/endobj endobj", 21, 1, 2, "/endobj");
        object("1 2 obj 5 0 R endobj", 20, 1, 2, "5 0 R");
        object("1 2 obj[1 2]endobj[", 18, 1, 2, "[ 1 2 ]");
        object("1 2 obj<<>>endobj<<", 17, 1, 2, "<< >>");
        object("%c\n0 65535%\robj[]%\nendobj%", 25, 0, 65535, "[ ]");
    }

    private static void edgesOfHeads() {
        object("0 0 obj 1 endobj", 16, 0, 0, "1");
        object("8388607 65535 obj 1 endobj", 26, 8388607, 65535, "1");
        object("8388606 65534 obj 1 endobj", 26, 8388606, 65534, "1");
        object("0".repeat(200) + "8388607 " + "0".repeat(200) + "65535 obj 1 endobj", 426, 8388607, 65535, "1");
        bench.entryFault("8388608 0 obj 1 endobj", HEAD, 0, 0, 0);
        bench.entryFault("1 65536 obj 1 endobj", HEAD, 2, 1, 0);
    }

    private static void wrongNumbers() {
        bench.entryFault("", HEAD, 0, 0, 0);
        bench.entryFault(" % ", HEAD, 3, 0, 0);
        for (String text : new String[] {"x", "8388608", "4294967297", "18446744073709551617", "+1", "-1",
            "-0", "1.0", "1.", "obj", "(1)", "(", "<31>", "<x>", "<", "/1", "/#00", "[", "]", "<<", ">>", ">",
            ")", "{", "}", "null"}) {
            bench.entryFault(" " + text + " 7 obj 1 endobj", HEAD, 1, 0, 0);
        }
    }

    private static void wrongGenerations() {
        bench.entryFault("12", HEAD, 2, 12, 0);
        bench.entryFault("12 % ", HEAD, 5, 12, 0);
        for (String text : new String[] {"x", "65536", "4294967297", "18446744073709551617", "+7", "-7",
            "-0", "7.0", "obj", "R", "(7)", "(", "<37>", "<x>", "/7", "/#00", "[", "<<", ">", "}"}) {
            bench.entryFault("12 " + text + " obj 1 endobj", HEAD, 3, 12, 0);
        }
        bench.entryFault("12[", HEAD, 2, 12, 0);
    }

    private static void wrongObj() {
        bench.entryFault("12 65535", HEAD, 8, 12, 65535);
        bench.entryFault("12 7 %obj", HEAD, 9, 12, 7);
        for (String text : new String[] {"Obj", "OBJ", "ob", "objx", "obj1", "R", "7", "(obj)", "(obj", "/obj",
            "<x>", "[", "<<", "}", "endobj", "null"}) {
            bench.entryFault("12 7 " + text + " 1 endobj", HEAD, 5, 12, 7);
        }
    }

    private static void wrongObjects() {
        bench.entryFault("1 2 obj endobj", SheetObjects.TOKEN, 8, 1, 2);
        bench.entryFault("1 2 obj stream\n", SheetObjects.TOKEN, 8, 1, 2);
        bench.entryFault("1 2 obj [1 x]", SheetObjects.TOKEN, 11, 1, 2);
        bench.entryFault("1 2 obj [<x>]", SheetObjects.STRING, 9, 1, 2);
        bench.entryFault("1 2 obj /#00 endobj", SheetObjects.NAME, 8, 1, 2);
        bench.entryFault("1 2 obj /" + "x".repeat(128), SheetObjects.NAME, 8, 1, 2);
        bench.entryFault("1 2 obj <<1", SheetObjects.KEY, 10, 1, 2);
        bench.entryFault("1 2 obj" + "[".repeat(101), SheetObjects.DEEP, 107, 1, 2);
        bench.entryFault(Scene.nodes(4000), "1 2 obj 5 endobj", SheetObjects.FULL, 8, 1, 2);
        bench.entryFault(Scene.nodes(3999), "1 2 obj[5]endobj", SheetObjects.FULL, 8, 1, 2);
        bench.entryFault(Scene.bytes(32768), "1 2 obj(a)endobj", SheetObjects.FULL, 7, 1, 2);
        object("1 2 obj" + "[".repeat(100) + "]".repeat(100) + "endobj", 213, 1, 2,
                "[ ".repeat(100) + "] ".repeat(99) + "]");
    }

    private static void wrongBodies() {
        bench.entryFault("1 2 obj 5", BODY, 9, 1, 2);
        bench.entryFault("1 2 obj 5 % endobj", BODY, 18, 1, 2);
        for (String text : new String[] {"x", "endob", "endobjx", "Endobj", "endstream", "obj", "7", "(a)",
            "(a", "<61>", "<x>", "/endobj", "/#00", "[", "]", "<<", ">>", ">", ")", "{", "}"}) {
            bench.entryFault("1 2 obj[5] " + text + " endobj", BODY, 11, 1, 2);
            bench.entryFault("1 2 obj<<>> " + text + " endobj", BODY, 12, 1, 2);
        }
        bench.entryFault("1 2 obj 5 0 endobj", BODY, 10, 1, 2);
        bench.entryFault("1 2 obj<<>> streams\n", BODY, 12, 1, 2);
        bench.entryFault("1 2 obj<<>> strea\n", BODY, 12, 1, 2);
        bench.entryFault("1 2 obj<<>> Stream\n", BODY, 12, 1, 2);
    }

    private static void streamsBehindOthers() {
        for (String text : new String[] {"null", "true", " 5 ", "1.5", "(a)", "/A ", "[]", "[<<>>]", "1 0 R "}) {
            String before = "1 2 obj " + text + " ";
            bench.entryFault(before + "stream\n", BODY, before.length(), 1, 2);
        }
        bench.due("behind a DICTIONARY", Scene.tape("1 2 obj<<>>stream\n").now().entry(0), 1);
    }

    private static void endedWithin() {
        bench.entryFault("", HEAD, 0, 0, 0);
        bench.entryFault("1", HEAD, 1, 1, 0);
        bench.entryFault("1 2", HEAD, 3, 1, 2);
        bench.entryFault("(1", HEAD, 0, 0, 0);
        bench.entryFault("1 2 obj", SheetObjects.ENDED, 7, 1, 2);
        bench.entryFault("1 2 obj ", SheetObjects.ENDED, 8, 1, 2);
        bench.entryFault("1 2 obj (a", SheetObjects.ENDED, 10, 1, 2);
        bench.entryFault("1 2 obj <4x", SheetObjects.ENDED, 11, 1, 2);
        bench.entryFault("1 2 obj [(a) ", SheetObjects.ENDED, 13, 1, 2);
        bench.entryFault("1 2 obj <</A", SheetObjects.ENDED, 12, 1, 2);
        bench.entryFault("1 2 obj 5 0 R", BODY, 13, 1, 2);
        bench.entryFault("1 2 obj [] ", BODY, 11, 1, 2);
        bench.entryFault("1 2 obj [] (", BODY, 11, 1, 2);
        bench.entryFault("1 2 obj<<>>stream", SheetObjects.STREAM, 11, 1, 2);
    }

    private static void stream(String text, int begin) {
        Used x = Scene.tape(text).now();
        bench.due(text, x.entry(0), 1);
        bench.tells(text, x, begin, 1, 2);
        bench.due(text + " kind", x.kind(1), 9);
        bench.due(text + " value", x.value(1), begin);
    }

    private static void streamLines() {
        stream("1 2 obj<<>>stream\n", 18);
        stream("1 2 obj<<>>stream\nbytes", 18);
        stream("1 2 obj<<>>stream\n\n", 18);
        stream("1 2 obj<<>>stream\n\r\n", 18);
        stream("1 2 obj<<>>stream\r\n", 19);
        stream("1 2 obj<<>>stream\r\n\n", 19);
        stream("1 2 obj<<>>%\nstream\r\nbytes endstream", 21);
    }

    private static void wrongStreams() {
        bench.entryFault("1 2 obj<<>>stream", SheetObjects.STREAM, 11, 1, 2);
        bench.entryFault("1 2 obj<<>>stream\r", SheetObjects.STREAM, 11, 1, 2);
        for (String text : new String[] {" \n", "\rx\n", "\r\r\n", "\t\r\n", "%\n", "[", "\0\n", "\f\n"}) {
            bench.entryFault("1 2 obj<<>> stream" + text, SheetObjects.STREAM, 12, 1, 2);
            bench.entryFault("1 2 obj<</A(a)>>stream" + text, SheetObjects.STREAM, 16, 1, 2);
        }
    }

    private static void streamNodes() {
        Used x = Scene.tape("3 4 obj <</A 1>> stream\nbytes endstream").now();
        bench.due("behind its dictionary", x.entry(0), 3);
        bench.due("kind", x.kind(3), 9);
        bench.due("its dictionary", x.child(3, 0, false), 0);
        bench.due("nodes", x.count(1), 4);
        bench.due("bytes", x.count(2), 1);
        bench.due("one object", x.count(3), 1);
        bench.due("once more", x.entry(0), 7);
        bench.due("its own dictionary", x.child(7, 0, false), 4);
        Used last = Scene.nodes(3998).thenTape("1 2 obj<<>>stream\n").now();
        bench.due("the last node", last.entry(0), 3999);
        bench.due("nodes", last.count(1), 4000);
    }

    private static void fullStreams() {
        bench.entryFault(Scene.nodes(3999), "1 2 obj <<>> stream\n", SheetObjects.FULL, 13, 1, 2);
        bench.entryFault(Scene.nodes(3999), "1 2 obj <<>> stream\r\n", SheetObjects.FULL, 13, 1, 2);
        bench.entryFault(Scene.nodes(3997), "1 2 obj <</A 1>>%\nstream\n", SheetObjects.FULL, 18, 1, 2);
        Used x = Scene.nodes(3999).thenTape("1 2 obj <<>> endobj").now();
        bench.due("a dictionary fits", x.entry(0), 3999);
        Used y = Scene.bytes(32768).thenTape("1 2 obj <<>> stream\n").now();
        bench.due("a stream has no bytes", y.entry(0), 2);
    }

    private static void fullIsLast() {
        bench.entryFault(Scene.nodes(3999), "1 2 obj <<>> stream ", SheetObjects.STREAM, 13, 1, 2);
        bench.entryFault(Scene.nodes(3999), "1 2 obj <<>> stream\r", SheetObjects.STREAM, 13, 1, 2);
        bench.entryFault(Scene.nodes(3999), "1 2 obj <<>> x", BODY, 13, 1, 2);
        bench.entryFault(Scene.nodes(3999), "1 2 obj [] stream\n", BODY, 11, 1, 2);
        bench.entryFault(Scene.nodes(4000), "1 2 x", HEAD, 4, 1, 2);
        bench.entryFault(Scene.nodes(4000), "1 2 obj x", SheetObjects.TOKEN, 8, 1, 2);
    }

    private static void storeAsItWas() {
        String[] texts = {"1 2 x", "1 2 obj[(a)/b x", "1 2 obj[(a)/b]x", "1 2 obj<</a(b)>>stream",
            "1 2 obj<</a(b)>>stream\r", "1 2 obj<</a(b)>>", "1 2 obj[(a)/b (c"};
        for (String text : texts) {
            Scene before = Scene.ordinary();
            Scene wrong = before.then(Scene.entry(text));
            bench.due(text + " is no object", wrong.now().count(3), 1);
            Scene good = Scene.entry("3 4 obj<</k(zz)/n[1 2 R]>>stream\n");
            bench.due(text, State.whole(wrong.then(good)), State.whole(before.then(good)));
        }
    }

    private static void edgePlaces() {
        Used x = Scene.tape("xx 1 0 obj 5 endobj").now();
        bench.due("0", x.entry(0), HEAD);
        bench.due("2", x.entry(2), 0);
        bench.due("the last byte", x.entry(18), HEAD);
        bench.due("the number of bytes", x.entry(19), HEAD);
        bench.due("its place", x.last(0), 19);
    }

    private static void noPlaces() {
        for (int place : new int[] {-1, 14, Integer.MIN_VALUE, Integer.MAX_VALUE}) {
            bench.refused("entry(" + place + ")", Scene.ordinary(), Bench.OUT_OF_BOUNDS, x -> x.entry(place));
        }
        Scene read = Scene.entry("7 3 obj 5 endobj");
        bench.refused("behind another", read, Bench.OUT_OF_BOUNDS, x -> x.entry(17));
        bench.refused("a read behind it", read, Bench.OUT_OF_BOUNDS, x -> x.read(17));
        bench.tells("what it told stays", read.now(), 16, 7, 3);
    }

    private static void lastOfNone() {
        Scene[] scenes = {Scene.fresh(), Scene.tape("[1]"), Scene.tape("1").then(Used::rewind)};
        for (Scene scene : scenes) {
            for (int what : new int[] {0, 1, 2, 3, -1}) {
                bench.idle("last(" + what + ")", scene, NONE, x -> x.last(what));
            }
        }
        Used x = new Used();
        bench.throwing("a refused read", x, Bench.OUT_OF_BOUNDS, y -> y.read(1));
        bench.throwing("a refused entry", x, Bench.OUT_OF_BOUNDS, y -> y.entry(-1));
        bench.tells("still none", x, NONE, NONE, NONE);
    }

    private static void lastOfAnotherWhat() {
        Scene scene = Scene.entry("7 3 obj 5 endobj");
        for (int what : new int[] {-1, 3, Integer.MIN_VALUE, Integer.MAX_VALUE}) {
            bench.idle("last(" + what + ")", scene, NONE, x -> x.last(what));
        }
        bench.idle("last(0)", scene, 16, x -> x.last(0));
        bench.idle("last(2)", scene, 3, x -> x.last(2));
    }

    private static void placeBehind() {
        String[] texts = {"null", "true", "17", "-.5", "1 0 R", "(a(b))", "<41>", "/A", "[1 2]", "<</A 1>>"};
        for (String text : texts) {
            Used x = Scene.tape(" " + text + " ").now();
            x.read(0);
            bench.due(text, x.last(0), 1 + text.length());
        }
        Used x = Scene.tape("1 2 obj 5 endobj  ").now();
        x.entry(0);
        bench.due("behind endobj", x.last(0), 16);
        Used y = Scene.tape("1 2 obj<<>>stream\r\nbytes").now();
        y.entry(0);
        bench.due("a stream's bytes", y.last(0), 19);
        bench.due("its value", y.value(1), 19);
        Used end = Scene.longest().now();
        end.read(0);
        bench.due("behind the longest", end.last(0), 65536);
    }

    private static void placeOfFault() {
        bench.fault("   x", SheetObjects.TOKEN, 3);
        bench.fault("[1 %\n  (a", SheetObjects.ENDED, 9);
        bench.fault("[1 %\n  <x>", SheetObjects.STRING, 7);
        bench.entryFault("1 2 %\nx", HEAD, 6, 1, 2);
        bench.entryFault("1 2 obj 5 %\nx", BODY, 12, 1, 2);
        bench.entryFault("1 2 obj<<>> %\nstream", SheetObjects.STREAM, 14, 1, 2);
    }

    private static void asFarAsRead() {
        Scene before = Scene.entry("7 3 obj 5 endobj");
        bench.tells("read", before.now(), 16, 7, 3);
        bench.tells("no number", before.then(Scene.entry("x 9 obj")).now(), 0, 0, 0);
        bench.tells("no generation", before.then(Scene.entry("8 x obj")).now(), 2, 8, 0);
        bench.tells("no obj", before.then(Scene.entry("8 9 x")).now(), 4, 8, 9);
        bench.tells("no object", before.then(Scene.entry("8 9 obj x")).now(), 8, 8, 9);
        bench.tells("no body", before.then(Scene.entry("8 9 obj 1 x")).now(), 10, 8, 9);
        bench.tells("no stream", before.then(Scene.entry("8 9 obj<<>>stream")).now(), 11, 8, 9);
    }

    private static void readTellsNoNumber() {
        Scene before = Scene.entry("7 3 obj 5 endobj");
        bench.tells("a read", before.thenRead("[1]").now(), 3, 0, 0);
        bench.tells("a reference", before.thenRead("4 5 R").now(), 5, 0, 0);
        bench.tells("a fault", before.thenRead("[x]").now(), 1, 0, 0);
    }

    private static void latest() {
        Used x = Scene.entry("7 3 obj [5 (a)] endobj").now();
        x.write(0);
        x.put(0, '8');
        x.value(0);
        x.rewind();
        x.cut(0);
        x.drop(0);
        x.feed(0, 0, 0, 0, 0);
        bench.tells("other calls change nothing", x, 22, 7, 3);
        x.read(3);
        bench.tells("the latest", x, 20, 0, 0);
        x.lay("1 0 obj 5 endobj");
        x.entry(0);
        bench.tells("the latest of all", x, 16, 1, 0);
    }
}
