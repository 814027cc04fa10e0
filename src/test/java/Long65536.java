/** Long tapes with few calls: a string is written as twice its bytes, and those are read again. */
final class Long65536 {
    /** An object whose tape is one literal string of so many bytes; the store is empty. */
    static SheetObjects literal(int bytes) {
        SheetObjects x = Bench.load("(" + "a".repeat(96) + ")");
        while (x.count(0) < bytes + 2) {
            x.write(x.read(0));
            x.rewind();
            x.drop(0);
            x.put(0, '(');
            x.put(x.count(0) - 1, ')');
        }
        x.cut(bytes + 2);
        x.put(bytes + 1, ')');
        return x;
    }

    /** An object whose tape has 65,536 bytes, all of one hexadecimal string; the store has it. */
    static SheetObjects tape() {
        SheetObjects x = literal(32767);
        x.write(x.read(0));
        x.rewind();
        return x;
    }
}
