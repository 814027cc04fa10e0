/** All that can be asked of an object behind a scene, as one text; two of them can be compared. */
final class State {
    private final Scene scene;
    private final StringBuilder text = new StringBuilder();
    private Used used;

    private State(Scene scene) {
        this.scene = scene;
        used = scene.now();
    }

    /** Tape, store and what was written, and what the latest reading told. */
    static String whole(Scene scene) {
        State state = new State(scene);
        state.addLatest();
        state.addAll();
        return state.text.toString();
    }

    /** The same without the latest reading, of which a fault tells something new. */
    static String besideLatest(Scene scene) {
        State state = new State(scene);
        state.addAll();
        return state.text.toString();
    }

    /** An object that has a call left. */
    private Used next() {
        if (used.left() == 0) {
            used = scene.now();
        }
        return used;
    }

    private void add(int answer) {
        text.append(answer).append(' ');
    }

    private void addLatest() {
        for (int what = 0; what < 3; what++) {
            text.append("last(").append(what).append(") ");
            add(next().last(what));
        }
    }

    private void addAll() {
        int bytes = next().count(0);
        int nodes = next().count(1);
        text.append("bytes ").append(bytes).append(" nodes ").append(nodes).append(" used ");
        add(next().count(2));
        text.append("objects ");
        add(next().count(3));
        for (int node = 0; node < nodes; node++) {
            addNode(node);
        }
        addWritten();
        text.append("tape ");
        for (int i = 0; i < bytes; i++) {
            // To put is the only way to look at a byte; none is looked at twice.
            add(next().put(i, 0));
        }
    }

    private void addNode(int node) {
        int kind = next().kind(node);
        int value = next().value(node);
        text.append("node ").append(node).append(" kind ").append(kind).append(" value ");
        add(value);
        for (int i = 0; i < value && (kind == 4 || kind == 5); i++) {
            add(next().byteAt(node, i));
        }
        for (int i = 0; i < value && (kind == 6 || kind == 7); i++) {
            add(next().child(node, i, false));
        }
        if (kind == 8 || kind == 9) {
            add(next().child(node, 0, false));
        }
    }

    private void addWritten() {
        text.append("written ");
        int i = 0;
        for (int b = next().written(0); b != SheetObjects.NONE; b = next().written(i)) {
            add(b);
            i++;
        }
    }
}
