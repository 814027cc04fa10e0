/** OBJECTS, THE STORE, READING, and promise 5: read. */
public final class ReadTest {
    private static final Bench bench = new Bench();

    public static void main(String[] args) {
        bench.sentence("an ARRAY [, objects, ]", ReadTest::arrays);
        bench.sentence("a DICTIONARY <<, ENTRIES (a KEY, which is a NAME, and an object, its VALUE), >>",
                ReadTest::dictionaries);
        bench.sentence("Arrays and dictionaries lie in one another at most 100 deep", ReadTest::hundredDeep);
        bench.sentence("NODES, numbered from 0 on in the order of their tokens", ReadTest::numbering);
        bench.sentence("THE STORE has at most 4000 NODES", ReadTest::mostNodes);
        bench.sentence("THE STORE has at most 32,768 bytes in their STRINGS and NAMES", ReadTest::mostBytes);
        bench.sentence("5: READING an object from a place on: its node", ReadTest::placesOn);
        bench.sentence("5: the place is 0 .. the number of bytes", ReadTest::edgePlaces);
        bench.sentence("5: IndexOutOfBounds: the place is not 0 .. the number of bytes", ReadTest::noPlaces);
        bench.sentence("ENDED: the END comes where a token must", ReadTest::endForAToken);
        bench.sentence("ENDED: or in a STRING", ReadTest::endInAString);
        bench.sentence("TOKEN: where an object must come, a token that begins none", ReadTest::noObject);
        bench.sentence("TOKEN: where an object or ] must come", ReadTest::noObjectInAnArray);
        bench.sentence("STRING: from < on it has another byte", ReadTest::wrongStrings);
        bench.sentence("NAME: it has more than 127 bytes", ReadTest::longNames);
        bench.sentence("NAME: or a byte 0", ReadTest::zeroNames);
        bench.sentence("KEY: where a KEY (or >>) must come, another token", ReadTest::wrongKeys);
        bench.sentence("DEEP: the 101st array or dictionary in one another begins", ReadTest::tooDeep);
        bench.sentence("FULL: the store has no more room (nodes)", ReadTest::tooManyNodes);
        bench.sentence("FULL: the store has no more room (bytes)", ReadTest::tooManyBytes);
        bench.sentence("told by the first token at which it does", ReadTest::firstToken);
        bench.sentence("of one token the first: ENDED before STRING", ReadTest::endedBeforeString);
        bench.sentence("of one token the first: ENDED before KEY", ReadTest::endedBeforeKey);
        bench.sentence("of one token the first: ENDED before FULL", ReadTest::endedBeforeFull);
        bench.sentence("of one token the first: TOKEN before FULL", ReadTest::tokenBeforeFull);
        bench.sentence("of one token the first: STRING before KEY", ReadTest::stringBeforeKey);
        bench.sentence("of one token the first: STRING before FULL", ReadTest::stringBeforeFull);
        bench.sentence("of one token the first: NAME before FULL", ReadTest::nameBeforeFull);
        bench.sentence("of one token the first: KEY before DEEP", ReadTest::keyBeforeDeep);
        bench.sentence("of one token the first: KEY before FULL", ReadTest::keyBeforeFull);
        bench.sentence("of one token the first: DEEP before FULL", ReadTest::deepBeforeFull);
        bench.sentence("The store is then as it was", ReadTest::storeAsItWas);
        bench.end();
    }

    private static void nests(String text, int nodes) {
        Used x = Scene.tape(text).now();
        bench.due("node", x.read(0), 0);
        bench.due("nodes", x.count(1), nodes);
        bench.due("past", x.last(0), text.length());
    }

    /** The text is read as one object behind the scene, of so many nodes and bytes. */
    private static void fits(Scene scene, String text, int nodes, int bytes) {
        Used x = scene.thenTape(text).now();
        int nodesBefore = x.count(1);
        int bytesBefore = x.count(2);
        int objectsBefore = x.count(3);
        bench.due(text + " fits", x.read(0), nodesBefore);
        bench.due(text + " past", x.last(0), text.length());
        bench.due(text + " nodes", x.count(1), nodesBefore + nodes);
        bench.due(text + " bytes", x.count(2), bytesBefore + bytes);
        bench.due(text + " objects", x.count(3), objectsBefore + 1);
    }

    private static void full(Scene scene, String text, int place) {
        bench.fault(scene, text, SheetObjects.FULL, place);
    }

    private static void arrays() {
        bench.reads("[]", 6, 0, 2);
        bench.reads("[ ]]", 6, 0, 3);
        Used x = Scene.read("[null true 1 2.5 3 0 R (a) /B [] <<>>]").now();
        bench.due("nine objects", x.value(0), 9);
        bench.due("nodes", x.count(1), 10);
        Used many = Scene.read(Scene.ones(399)).now();
        bench.due("398 objects", many.value(0), 398);
    }

    private static void dictionaries() {
        bench.reads("<<>>", 7, 0, 4);
        Used x = Scene.read("<</A null/B true/C 1/D 2.5/E 3 0 R/F(a)/G/B/H[]/I<<>>>>").now();
        bench.due("nine entries", x.value(0), 9);
        bench.due("nodes", x.count(1), 19);
        Used twice = Scene.read("<</A 1/A 2/ 3>>").now();
        bench.due("a key twice, a key without bytes", twice.value(0), 3);
        Used names = Scene.read("<</A/B/C/D>>").now();
        bench.due("names as values", names.value(0), 2);
    }

    private static void hundredDeep() {
        nests("[".repeat(99) + "]".repeat(99), 99);
        nests("[".repeat(100) + "]".repeat(100), 100);
        nests("<</A".repeat(99) + "<<>>" + ">>".repeat(99), 199);
        nests("<</A".repeat(99) + "[]" + ">>".repeat(99), 199);
        nests("[<</A".repeat(50) + " 1" + ">>]".repeat(50), 151);
        nests("[".repeat(99) + "[][]<<>>[1(a)/b 1 0 R]" + "]".repeat(99), 107);
        nests("[" + ("[".repeat(99) + "]".repeat(99)).repeat(3) + "]", 298);
    }

    private static void numbering() {
        Used x = Scene.tape("[<</A[1]/B<</C()>>>>[[]]<41>1 0 R/N]").now();
        bench.due("from 0 on", x.read(0), 0);
        int[] kinds = {6, 7, 5, 6, 2, 5, 7, 5, 4, 6, 6, 4, 8, 5};
        bench.due("nodes", x.count(1), kinds.length);
        for (int node = 0; node < kinds.length; node++) {
            bench.due("kind " + node, x.kind(node), kinds[node]);
        }
        bench.due("the next one", x.read(0), kinds.length);
        bench.due("of a REFERENCE one", Scene.read("1 0 R").now().count(1), 1);
        Used entry = Scene.read("<</K/V>>").now();
        bench.due("of an ENTRY its KEY's", entry.bytes(1), "K");
        bench.due("then its VALUE's", entry.bytes(2), "V");
    }

    private static void mostNodes() {
        fits(Scene.nodes(3999), "1", 1, 0);
        fits(Scene.nodes(3999), "[]", 1, 0);
        fits(Scene.nodes(3999), "1 0 R", 1, 0);
        fits(Scene.nodes(3998), "[1]", 2, 0);
        fits(Scene.nodes(3998), "[/]", 2, 0);
        fits(Scene.nodes(3997), "<</A 1>>", 3, 1);
        fits(Scene.nodes(3997), "<</A[]>>", 3, 1);
        Used x = Scene.nodes(4000).now();
        bench.due("nodes", x.count(1), 4000);
        bench.due("the last one", x.kind(3999), 2);
        bench.throwing("none behind it", x, Bench.OUT_OF_BOUNDS, y -> y.kind(4000));
        Used single = Scene.nodes(3999).thenTape("(last)").now();
        bench.due("the highest node", single.read(0), 3999);
        bench.due("its bytes", single.bytes(3999), "last");
    }

    private static void mostBytes() {
        Used x = Scene.literal(32768).now();
        bench.due("32,768 in one", x.read(0), 0);
        bench.due("counted", x.count(2), 32768);
        bench.due("its value", x.value(0), 32768);
        bench.due("its first byte", x.byteAt(0, 0), '3');
        bench.due("its last byte", x.byteAt(0, 32767) >= 0, true);
        bench.due("none behind it", x.byteAt(0, 32768), SheetObjects.NONE);
        fits(Scene.bytes(32767), "(z)", 1, 1);
        fits(Scene.bytes(32767), "/z", 1, 1);
        fits(Scene.bytes(32766), "<</a(z)>>", 3, 2);
        fits(Scene.bytes(32641), "/" + "n".repeat(127), 1, 127);
        fits(Scene.bytes(32768), "[() / <> 1 <</ ()>>]", 8, 0);
        Used last = Scene.bytes(32766).thenRead("(yz)").now();
        bench.due("the last bytes", last.bytes(1), "yz");
    }

    private static void placesOn() {
        Used x = Scene.tape("12 34").now();
        bench.due("from 0", x.read(0), 0);
        bench.due("12", x.value(0), 12);
        bench.due("from the midst of a word", x.read(1), 1);
        bench.due("2", x.value(1), 2);
        bench.due("from behind a word", x.read(2), 2);
        bench.due("34", x.value(2), 34);
        bench.due("from the last byte", x.read(4), 3);
        bench.due("4", x.value(3), 4);
    }

    private static void edgePlaces() {
        Used x = Scene.tape("[1]").now();
        bench.due("0", x.read(0), 0);
        bench.due("the last byte", x.read(2), SheetObjects.TOKEN);
        bench.due("the number of bytes", x.read(3), SheetObjects.ENDED);
        bench.due("its place", x.last(0), 3);
        bench.due("0 of none", new Used().read(0), SheetObjects.ENDED);
    }

    private static void noPlaces() {
        for (int place : new int[] {-1, 14, Integer.MIN_VALUE, Integer.MAX_VALUE}) {
            bench.refused("read(" + place + ")", Scene.ordinary(), Bench.OUT_OF_BOUNDS, x -> x.read(place));
        }
        Scene cut = Scene.ordinary().then(x -> x.cut(3));
        bench.refused("where it was cut", cut, Bench.OUT_OF_BOUNDS, x -> x.read(4));
        bench.refused("before any reading", Scene.tape("1"), Bench.OUT_OF_BOUNDS, x -> x.read(2));
    }

    private static void endForAToken() {
        bench.fault("", SheetObjects.ENDED, 0);
        bench.fault("  ", SheetObjects.ENDED, 2);
        bench.fault(" % true", SheetObjects.ENDED, 7);
        bench.fault("[", SheetObjects.ENDED, 1);
        bench.fault("[1 2 ", SheetObjects.ENDED, 5);
        bench.fault("[[]", SheetObjects.ENDED, 3);
        bench.fault("<<", SheetObjects.ENDED, 2);
        bench.fault("<</A", SheetObjects.ENDED, 4);
        bench.fault("<</A ", SheetObjects.ENDED, 5);
        bench.fault("<</A 1", SheetObjects.ENDED, 6);
        bench.fault("<</A 1 % >>", SheetObjects.ENDED, 11);
        bench.fault("[1 0", SheetObjects.ENDED, 4);
        bench.fault("[1 0 R", SheetObjects.ENDED, 6);
    }

    private static void endInAString() {
        bench.fault("(", SheetObjects.ENDED, 1);
        bench.fault(" (a", SheetObjects.ENDED, 3);
        bench.fault("(a(b)", SheetObjects.ENDED, 5);
        bench.fault("(a\\)", SheetObjects.ENDED, 4);
        bench.fault("(a\\", SheetObjects.ENDED, 3);
        bench.fault("[(a) (b", SheetObjects.ENDED, 7);
        bench.fault("<</A(b", SheetObjects.ENDED, 6);
        bench.fault("<", SheetObjects.ENDED, 1);
        bench.fault("<4", SheetObjects.ENDED, 2);
        bench.fault("<41 ", SheetObjects.ENDED, 4);
        bench.fault("[<41> <41", SheetObjects.ENDED, 9);
    }

    private static void noObject() {
        String[] texts = {"]", ">>", ">", ")", "{", "}", "R", "obj", "endobj", "stream", "\u000B"};
        for (String text : texts) {
            bench.fault(text, SheetObjects.TOKEN, 0);
            bench.fault(" \n" + text + " 1", SheetObjects.TOKEN, 2);
            bench.fault("<</A " + text + ">>", SheetObjects.TOKEN, 5);
        }
        bench.fault("<</A>>", SheetObjects.TOKEN, 4);
        bench.fault("<</A[1]/B]>>", SheetObjects.TOKEN, 9);
        bench.fault("[<</A]", SheetObjects.TOKEN, 5);
    }

    private static void noObjectInAnArray() {
        for (String text : new String[] {">>", ">", ")", "{", "}", "R", "x"}) {
            bench.fault("[" + text, SheetObjects.TOKEN, 1);
            bench.fault("[1 " + text + " ]", SheetObjects.TOKEN, 3);
        }
        bench.fault("[<</A 1>>>>]", SheetObjects.TOKEN, 9);
        bench.fault("<</A[>>", SheetObjects.TOKEN, 5);
    }

    private static void wrongStrings() {
        bench.fault("<4x>", SheetObjects.STRING, 0);
        bench.fault("<x4>", SheetObjects.STRING, 0);
        bench.fault("<4142x>", SheetObjects.STRING, 0);
        bench.fault("<\u000B>", SheetObjects.STRING, 0);
        bench.fault("<(>", SheetObjects.STRING, 0);
        bench.fault("< <41>", SheetObjects.STRING, 0);
        bench.fault("[1 <4 %\n1>]", SheetObjects.STRING, 3);
        bench.fault("<</A<x>>>", SheetObjects.STRING, 4);
        bench.fault("<xy", SheetObjects.ENDED, 3);
    }

    private static void longNames() {
        String name = "/" + "x".repeat(127);
        String signs = "/" + "#78".repeat(127);
        bench.readsBytes("/" + "x".repeat(126), 5, "x".repeat(126));
        bench.readsBytes(name, 5, "x".repeat(127));
        bench.readsBytes(signs, 5, "x".repeat(127));
        bench.readsBytes("/" + "#".repeat(127), 5, "#".repeat(127));
        fits(Scene.fresh(), "<<" + name + name + ">>", 3, 254);
        bench.fault(name + "x", SheetObjects.NAME, 0);
        bench.fault(name + "#78", SheetObjects.NAME, 0);
        bench.fault(signs + "x", SheetObjects.NAME, 0);
        bench.fault("/" + "#".repeat(128), SheetObjects.NAME, 0);
        bench.fault("/" + "x".repeat(1000), SheetObjects.NAME, 0);
        bench.fault("[" + name + name + "x]", SheetObjects.NAME, 129);
        bench.fault("<<" + name + "x 1>>", SheetObjects.NAME, 2);
        bench.fault("<</A" + name + "x>>", SheetObjects.NAME, 4);
    }

    private static void zeroNames() {
        bench.fault("/#00", SheetObjects.NAME, 0);
        bench.fault("/a#00b", SheetObjects.NAME, 0);
        bench.fault("[/a /b#00]", SheetObjects.NAME, 4);
        bench.fault("<</#00 1>>", SheetObjects.NAME, 2);
        bench.fault("<</A/#00>>", SheetObjects.NAME, 4);
        bench.fault("<</A 1/B#00 1>>", SheetObjects.NAME, 6);
        bench.readsBytes("/a\0b", 5, "a", 2);
        bench.readsBytes("/#01", 5, "\1");
        bench.readsBytes("/#0", 5, "#0");
        bench.readsBytes("/#0g", 5, "#0g");
    }

    private static void wrongKeys() {
        String[] texts = {"1", "1 0 R", "(a)", "<41>", "]", "[", "<<", ">", ")", "{", "}", "null", "x"};
        for (String text : texts) {
            bench.fault("<<" + text + " 2>>", SheetObjects.KEY, 2);
            bench.fault("<</A 1 " + text + " 2>>", SheetObjects.KEY, 7);
            bench.fault("[<<>><<%\n" + text, SheetObjects.KEY, 9);
        }
        bench.fault("<</A[] ]", SheetObjects.KEY, 7);
        bench.fault("<</A<</B 1>>2>>", SheetObjects.KEY, 12);
    }

    private static void tooDeep() {
        bench.fault("[".repeat(101) + "]".repeat(101), SheetObjects.DEEP, 100);
        bench.fault("[".repeat(100) + "<<>>", SheetObjects.DEEP, 100);
        bench.fault("<</A ".repeat(100) + "[", SheetObjects.DEEP, 500);
        bench.fault("<</A ".repeat(100) + "<<", SheetObjects.DEEP, 500);
        bench.fault("[".repeat(99) + "[][[]]", SheetObjects.DEEP, 102);
        bench.fault("[".repeat(200), SheetObjects.DEEP, 100);
    }

    private static void tooManyNodes() {
        for (String text : new String[] {"1", "1.5", "null", "true", "()", "<>", "/", "/A", "[]", "<<>>",
            "1 0 R"}) {
            full(Scene.nodes(4000), " " + text, 1);
            full(Scene.nodes(3998), "[1 " + text + "]", 3);
        }
        full(Scene.nodes(3999), "[1]", 1);
        full(Scene.nodes(3999), "<</A 1>>", 2);
        full(Scene.nodes(3998), "<</A 1>>", 5);
        full(Scene.nodes(3998), "[[][]]", 3);
        full(Scene.nodes(3900), "[1" + "[".repeat(101), 100);
        full(Scene.fresh(), "[" + "1 ".repeat(4000), 1 + 2 * 3999);
    }

    private static void tooManyBytes() {
        full(Scene.bytes(32768), "(a)", 0);
        full(Scene.bytes(32768), "<4>", 0);
        full(Scene.bytes(32768), "/a", 0);
        full(Scene.bytes(32768), "[() /a]", 4);
        full(Scene.bytes(32768), "<</ ()/ <4>>>", 8);
        full(Scene.bytes(32767), "(ab)", 0);
        full(Scene.bytes(32767), "<</a(z)>>", 4);
        full(Scene.bytes(32767), "<</a 1/b 2>>", 6);
        full(Scene.bytes(32642), " /" + "n".repeat(127), 1);
        Used x = Scene.literal(32769).now();
        bench.due("32,769 in one", x.read(0), SheetObjects.FULL);
        bench.tells("32,769 in one", x, 0, 0, 0);
        bench.due("none are kept", x.count(2), 0);
        bench.due("no node either", x.count(1), 0);
        Used y = Scene.longest().then(z -> z.put(0, '(')).then(z -> z.put(65535, ')')).now();
        bench.due("65,534 in one", y.read(0), SheetObjects.FULL);
        bench.due("none are kept", y.count(2), 0);
    }

    private static void firstToken() {
        bench.fault("[x <4x", SheetObjects.TOKEN, 1);
        bench.fault("[<4x> x (a", SheetObjects.STRING, 1);
        bench.fault("[/#00 x", SheetObjects.NAME, 1);
        bench.fault("<<(a) (b", SheetObjects.KEY, 2);
        bench.fault("[".repeat(101) + "x", SheetObjects.DEEP, 100);
        bench.fault("[".repeat(100) + "x[", SheetObjects.TOKEN, 100);
        bench.fault(Scene.nodes(3999), "[1 x", SheetObjects.FULL, 1);
        bench.fault(Scene.nodes(3999), "[x 1", SheetObjects.TOKEN, 1);
        bench.fault("<</A x 1", SheetObjects.TOKEN, 5);
        bench.fault("<<1/A x", SheetObjects.KEY, 2);
    }

    private static void endedBeforeString() {
        bench.fault("<4x", SheetObjects.ENDED, 3);
        bench.fault("[<x(", SheetObjects.ENDED, 4);
        bench.fault("<x>", SheetObjects.STRING, 0);
    }

    private static void endedBeforeKey() {
        bench.fault("<<", SheetObjects.ENDED, 2);
        bench.fault("<<(a", SheetObjects.ENDED, 4);
        bench.fault("<<<41", SheetObjects.ENDED, 5);
        bench.fault("<<<4x", SheetObjects.ENDED, 5);
        bench.fault("<<(a)", SheetObjects.KEY, 2);
    }

    private static void endedBeforeFull() {
        bench.fault(Scene.nodes(4000), "", SheetObjects.ENDED, 0);
        bench.fault(Scene.nodes(4000), "(a", SheetObjects.ENDED, 2);
        bench.fault(Scene.nodes(4000), "<41", SheetObjects.ENDED, 3);
        bench.fault(Scene.nodes(3999), "[", SheetObjects.ENDED, 1);
        bench.fault(Scene.nodes(3999), "<<", SheetObjects.ENDED, 2);
        bench.fault(Scene.bytes(32768), "(a", SheetObjects.ENDED, 2);
    }

    private static void tokenBeforeFull() {
        for (String text : new String[] {"]", ">>", ">", ")", "{", "}", "x"}) {
            bench.fault(Scene.nodes(4000), text, SheetObjects.TOKEN, 0);
        }
        bench.fault(Scene.nodes(3998), "[1 >>", SheetObjects.TOKEN, 3);
        bench.fault(Scene.nodes(3998), "<</A]", SheetObjects.TOKEN, 4);
    }

    private static void stringBeforeKey() {
        bench.fault("<<<4x>", SheetObjects.STRING, 2);
        bench.fault("<</A 1<4x>", SheetObjects.STRING, 6);
        bench.fault("<<<41>", SheetObjects.KEY, 2);
    }

    private static void stringBeforeFull() {
        bench.fault(Scene.nodes(4000), "<x>", SheetObjects.STRING, 0);
        bench.fault(Scene.bytes(32768), "<41x>", SheetObjects.STRING, 0);
        bench.fault(Scene.nodes(3999), "[<x>]", SheetObjects.STRING, 1);
    }

    private static void nameBeforeFull() {
        bench.fault(Scene.nodes(4000), "/#00", SheetObjects.NAME, 0);
        bench.fault(Scene.nodes(4000), "/" + "x".repeat(128), SheetObjects.NAME, 0);
        bench.fault(Scene.nodes(3999), "<</#00", SheetObjects.NAME, 2);
        bench.fault(Scene.bytes(32768), "/a#00", SheetObjects.NAME, 0);
        bench.fault(Scene.bytes(32768), "/" + "x".repeat(128), SheetObjects.NAME, 0);
        full(Scene.nodes(4000), "/" + "x".repeat(127), 0);
    }

    private static void keyBeforeDeep() {
        String hundred = "<</A".repeat(99) + "<<";
        bench.fault(hundred + "[", SheetObjects.KEY, hundred.length());
        bench.fault(hundred + "<<", SheetObjects.KEY, hundred.length());
        bench.fault(hundred + "/A[", SheetObjects.DEEP, hundred.length() + 2);
    }

    private static void keyBeforeFull() {
        for (String text : new String[] {"1", "(a)", "[", "<<", "x"}) {
            bench.fault(Scene.nodes(3999), "<<" + text, SheetObjects.KEY, 2);
        }
        bench.fault(Scene.bytes(32768), "<<(a)", SheetObjects.KEY, 2);
        full(Scene.nodes(3999), "<</A", 2);
    }

    private static void deepBeforeFull() {
        bench.fault(Scene.nodes(3900), "[".repeat(101), SheetObjects.DEEP, 100);
        bench.fault(Scene.nodes(3900), "[".repeat(100) + "<<", SheetObjects.DEEP, 100);
        full(Scene.nodes(3901), "[".repeat(101), 99);
    }

    /** What is read behind a fault is what would have been read without it. */
    private static void storeAsItWas() {
        String[] texts = {"[(a) /b <</c 1", "[(a) /b x", "[(a) /b <x>", "[(a) /b /#00", "[(a) /b <<1",
            "[(a)/b" + "[".repeat(100), "/" + "x".repeat(500), "(abc", "<414243", "<414x>",
            "[" + "(ab)".repeat(200) + "x]"};
        for (String text : texts) {
            Scene before = Scene.ordinary();
            Scene wrong = before.thenTape(text).then(x -> x.read(0));
            bench.due(text + " is no object", wrong.now().count(3), 1);
            bench.due(text, State.whole(wrong.thenRead("[(zz)/n<</k[1 2 R]>>]")),
                    State.whole(before.thenRead("[(zz)/n<</k[1 2 R]>>]")));
        }
        Scene crowded = Scene.nodes(3990);
        bench.due("FULL", State.whole(crowded.thenRead(Scene.ones(399)).thenRead(Scene.ones(10))),
                State.whole(crowded.thenRead(Scene.ones(10))));
        Scene filled = Scene.bytes(32766);
        bench.due("FULL of bytes", State.whole(filled.thenRead("[(a)(bc)]").thenRead("(yz)")),
                State.whole(filled.thenRead("(yz)")));
    }
}
