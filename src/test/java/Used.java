import java.nio.charset.StandardCharsets;

/** A SheetObjects whose calls are counted: behind the 512th the document promises nothing. */
final class Used {
    static final int CALLS = 512;

    private final SheetObjects x = new SheetObjects();
    private int calls;

    private SheetObjects next() {
        calls++;
        if (calls > CALLS) {
            throw new IllegalStateException("the test makes more than 512 calls on one object");
        }
        return x;
    }

    int left() {
        return CALLS - calls;
    }

    int feed(int a, int b, int c, int d, int e) {
        return next().feed(a, b, c, d, e);
    }

    int put(int i, int b) {
        return next().put(i, b);
    }

    int cut(int many) {
        return next().cut(many);
    }

    int read(int place) {
        return next().read(place);
    }

    int entry(int place) {
        return next().entry(place);
    }

    int last(int what) {
        return next().last(what);
    }

    int kind(int node) {
        return next().kind(node);
    }

    int value(int node) {
        return next().value(node);
    }

    int byteAt(int node, int i) {
        return next().byteAt(node, i);
    }

    int child(int node, int i, boolean key) {
        return next().child(node, i, key);
    }

    int find(int node, int name) {
        return next().find(node, name);
    }

    boolean alike(int one, int other) {
        return next().alike(one, other);
    }

    int write(int node) {
        return next().write(node);
    }

    int written(int i) {
        return next().written(i);
    }

    int rewind() {
        return next().rewind();
    }

    int drop(int many) {
        return next().drop(many);
    }

    int count(int what) {
        return next().count(what);
    }

    /** The tape becomes the text, a byte for each of its characters. */
    void lay(String text) {
        byte[] bytes = text.getBytes(StandardCharsets.ISO_8859_1);
        cut(0);
        for (int at = 0; at < bytes.length; at += 20) {
            feed(four(bytes, at), four(bytes, at + 4), four(bytes, at + 8), four(bytes, at + 12),
                    four(bytes, at + 16));
        }
        cut(bytes.length);
    }

    static int four(byte[] bytes, int from) {
        int sum = 0;
        for (int i = from; i < from + 4; i++) {
            sum = sum << 8 | (i < bytes.length ? bytes[i] & 255 : ' ');
        }
        return sum;
    }

    /** All that was written last. */
    String page() {
        StringBuilder text = new StringBuilder();
        for (int b = written(0); b != SheetObjects.NONE; b = written(text.length())) {
            text.append((char) b);
        }
        return text.toString();
    }

    /** What a node is written as. */
    String text(int node) {
        write(node);
        return page();
    }

    /** The bytes of a string or name. */
    String bytes(int node) {
        StringBuilder text = new StringBuilder();
        for (int b = byteAt(node, 0); b != SheetObjects.NONE; b = byteAt(node, text.length())) {
            text.append((char) b);
        }
        return text.toString();
    }
}
