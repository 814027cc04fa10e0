/** What the tests share: sentences of the document, and a tally of the answers not as due. */
final class Bench {
    static final String OUT_OF_BOUNDS = "IndexOutOfBoundsException";
    static final String ILLEGAL = "IllegalArgumentException";

    private int sentences;
    private int wrong;
    private String current = "";

    /** A call that may throw. */
    interface Call {
        long on(Used x);
    }

    /** One test, of one sentence of the document. */
    void sentence(String words, Runnable test) {
        sentences++;
        current = words;
        try {
            test.run();
        } catch (RuntimeException e) {
            tell("the test", "throws " + e, "none");
        }
    }

    void due(String what, long got, long want) {
        if (got != want) {
            tell(what, Long.toString(got), Long.toString(want));
        }
    }

    void due(String what, boolean got, boolean want) {
        due(what, got ? 1 : 0, want ? 1 : 0);
    }

    void due(String what, String got, String want) {
        if (!got.equals(want)) {
            int from = Math.max(0, firstDifference(got, want) - 40);
            tell(what, part(got, from), part(want, from));
        }
    }

    private static int firstDifference(String one, String other) {
        int at = 0;
        while (at < one.length() && at < other.length() && one.charAt(at) == other.charAt(at)) {
            at++;
        }
        return at;
    }

    /** States are long: what differs is enough. */
    private static String part(String text, int from) {
        int to = Math.min(text.length(), from + 120);
        return (from > 0 ? ".. " : "") + text.substring(from, to) + (to < text.length() ? " .." : "");
    }

    /** The call throws just this exception, and nothing changes. */
    void refused(String what, Scene scene, String exception, Call call) {
        due(what, outcome(call, scene.now()), exception);
        due(what + ": changed", State.whole(scene.then(x -> outcome(call, x))), State.whole(scene));
    }

    /** The call throws what it must, on an object whose state is looked at elsewhere. */
    void throwing(String what, Used x, String exception, Call call) {
        due(what, outcome(call, x), exception);
    }

    /** The call answers this, and nothing changes. */
    void idle(String what, Scene scene, long answer, Call call) {
        due(what, call.on(scene.now()), answer);
        due(what + ": changed", State.whole(scene.then(call::on)), State.whole(scene));
    }

    private static String outcome(Call call, Used x) {
        try {
            return Long.toString(call.on(x));
        } catch (IndexOutOfBoundsException | IllegalArgumentException e) {
            return e.getClass().getSimpleName();
        }
    }

    /** One object of one node, of a kind and a value, that ends at a place. */
    void reads(String text, int kind, int value, int past) {
        Used x = Scene.tape(text).now();
        due(text + " node", x.read(0), 0);
        due(text + " past", x.last(0), past);
        due(text + " nodes", x.count(1), 1);
        due(text + " kind", x.kind(0), kind);
        due(text + " value", x.value(0), value);
    }

    /** One string or name with these bytes, which ends with the text. */
    void readsBytes(String text, int kind, String want) {
        readsBytes(text, kind, want, text.length());
    }

    void readsBytes(String text, int kind, String want, int past) {
        reads(text, kind, want.length(), past);
        due(text + " bytes", Scene.read(text).now().bytes(0), want);
    }

    /** A reading from the text's beginning tells a fault and its place, and the store stays. */
    void fault(String text, int answer, int place) {
        fault(Scene.ordinary(), text, answer, place);
    }

    void fault(Scene before, String text, int answer, int place) {
        Scene scene = before.thenTape(text);
        Used x = scene.now();
        due(text + " is wrong", x.read(0), answer);
        tells(text, x, place, 0, 0);
        due(text + ": changed", State.besideLatest(scene.then(y -> y.read(0))),
                State.besideLatest(scene));
    }

    /** The same of an indirect object; its number and generation are told as far as read. */
    void entryFault(String text, int answer, int place, int number, int generation) {
        entryFault(Scene.ordinary(), text, answer, place, number, generation);
    }

    void entryFault(Scene before, String text, int answer, int place, int number, int generation) {
        Scene scene = before.thenTape(text);
        Used x = scene.now();
        due(text + " is wrong", x.entry(0), answer);
        tells(text, x, place, number, generation);
        due(text + ": changed", State.besideLatest(scene.then(y -> y.entry(0))),
                State.besideLatest(scene));
    }

    /** What last tells of the latest reading. */
    void tells(String what, Used x, int place, int number, int generation) {
        due(what + " place", x.last(0), place);
        due(what + " number", x.last(1), number);
        due(what + " generation", x.last(2), generation);
    }

    private void tell(String what, String got, String want) {
        wrong++;
        System.out.println("[" + current + "] " + what + ": answered " + got + ", due is " + want);
    }

    /** Ends the test: exit code 1 if an answer was not as due. */
    void end() {
        String tested = sentences > 0 ? sentences + " sentences: " : "";
        System.out.println(tested + (wrong == 0 ? "all answers are as due" : wrong + " answers are not as due"));
        if (wrong != 0) {
            System.exit(1);
        }
    }
}
