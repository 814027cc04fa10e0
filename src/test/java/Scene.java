/**
 * Calls that can be made on a new object again and again, so that the state behind them can be
 * looked at by more calls than one object is promised to answer.
 */
interface Scene {
    void play(Used x);

    /** A new object on which the calls were made. */
    default Used now() {
        Used x = new Used();
        play(x);
        return x;
    }

    default Scene then(Scene more) {
        return x -> {
            play(x);
            more.play(x);
        };
    }

    default Scene thenTape(String text) {
        return then(tape(text));
    }

    default Scene thenRead(String text) {
        return then(read(text));
    }

    static Scene fresh() {
        return x -> { };
    }

    static Scene tape(String text) {
        return x -> x.lay(text);
    }

    static Scene read(String text) {
        return x -> {
            x.lay(text);
            x.read(0);
        };
    }

    static Scene entry(String text) {
        return x -> {
            x.lay(text);
            x.entry(0);
        };
    }

    /** Three nodes with six bytes of one object, 17 bytes written, and another tape. */
    static Scene ordinary() {
        return read("[(one) /two]").then(x -> x.write(0)).thenTape("<</A 1>> tail");
    }

    /** The tape is one literal string of so many bytes; the store is empty. */
    static Scene literal(int bytes) {
        return x -> {
            x.lay("(" + "a".repeat(96) + ")");
            // A string is written as twice its bytes, and those are the next string.
            for (int length = 96; length < bytes; length *= 2) {
                x.write(x.read(0));
                x.rewind();
                x.drop(0);
                x.put(0, '(');
                x.put(length * 2 + 1, ')');
            }
            x.cut(bytes + 2);
            x.put(bytes + 1, ')');
        };
    }

    /** The tape has 65,536 bytes, all of one hexadecimal string; the store is empty. */
    static Scene longest() {
        return literal(32767).then(x -> {
            x.write(x.read(0));
            x.rewind();
            x.drop(0);
        });
    }

    /** The store has so many nodes, none of them with bytes; most of its objects have 399. */
    static Scene nodes(int many) {
        return x -> {
            x.lay(ones(399));
            for (int i = 0; i < many / 399; i++) {
                x.read(0);
            }
            if (many % 399 > 0) {
                x.lay(ones(many % 399));
                x.read(0);
            }
        };
    }

    /** An array of so many nodes, itself among them. */
    static String ones(int nodes) {
        return "[" + "1 ".repeat(nodes - 1) + "]";
    }

    /** The store has one string of so many bytes. */
    static Scene bytes(int many) {
        return literal(many).then(x -> x.read(0)).thenTape("");
    }
}
