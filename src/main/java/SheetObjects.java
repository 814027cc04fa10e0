/**
 * Objects as they are written in portable documents: bytes on a tape become nodes in a store, and
 * nodes are written as bytes again. All rows are made once, by the constructor.
 */
public final class SheetObjects {
    public static final int NONE = -1;
    public static final int ENDED = -1;
    public static final int TOKEN = -2;
    public static final int STRING = -3;
    public static final int NAME = -4;
    public static final int KEY = -5;
    public static final int DEEP = -6;
    public static final int FULL = -7;
    public static final int STREAM = -8;
    public static final int HEAD = -9;
    public static final int BODY = -10;

    // Told by the reading's own steps when nothing is wrong; every fault is below it.
    private static final int RIGHT = 0;

    private static final int TAPE_MOST = 65536;
    private static final int NODES_MOST = 4000;
    private static final int BYTES_MOST = 32768;
    private static final int DEPTH_MOST = 100;
    private static final int NAME_MOST = 127;
    private static final int NUMBER_MOST = 8388607;
    private static final int GENERATION_MOST = 65535;
    private static final int AMOUNT_MOST = 2147483647;
    private static final int FEED_BYTES = 20;

    private static final int IS_NULL = 0;
    private static final int IS_TRUTH = 1;
    private static final int IS_INTEGER = 2;
    private static final int IS_REAL = 3;
    private static final int IS_STRING = 4;
    private static final int IS_NAME = 5;
    private static final int IS_ARRAY = 6;
    private static final int IS_DICTIONARY = 7;
    private static final int IS_REFERENCE = 8;
    private static final int IS_STREAM = 9;

    private static final int LINE_FEED = 10;
    private static final int RETURN = 13;

    // Bytes, not texts: what a run makes is counted, and these are made once for all calls.
    private static final byte[] NULL_WORD = {'n', 'u', 'l', 'l'};
    private static final byte[] TRUE_WORD = {'t', 'r', 'u', 'e'};
    private static final byte[] FALSE_WORD = {'f', 'a', 'l', 's', 'e'};
    private static final byte[] REFERENCE_WORD = {'R'};
    private static final byte[] BEGIN_WORD = {'o', 'b', 'j'};
    private static final byte[] END_WORD = {'e', 'n', 'd', 'o', 'b', 'j'};
    private static final byte[] STREAM_WORD = {'s', 't', 'r', 'e', 'a', 'm'};

    private final Tape tape;
    private final Store store;
    private final Reader reader;
    private final Page page;

    public SheetObjects() {
        tape = new Tape();
        store = new Store();
        reader = new Reader(tape, store);
        page = new Page(store);
    }

    public int feed(int a, int b, int c, int d, int e) {
        if (tape.size + FEED_BYTES > TAPE_MOST) {
            return NONE;
        }
        tape.addFour(a);
        tape.addFour(b);
        tape.addFour(c);
        tape.addFour(d);
        tape.addFour(e);
        return tape.size;
    }

    public int put(int i, int b) throws IndexOutOfBoundsException, IllegalArgumentException {
        if (i < 0 || i >= tape.size) {
            throw new IndexOutOfBoundsException("the tape has no such byte");
        }
        if (b < 0 || b > 255) {
            throw new IllegalArgumentException("a byte is 0 .. 255");
        }
        return tape.change(i, b);
    }

    public int cut(int many) throws IllegalArgumentException {
        if (many < 0) {
            throw new IllegalArgumentException("less than no bytes");
        }
        return tape.shorten(many);
    }

    public int read(int place) throws IndexOutOfBoundsException {
        needPlace(place);
        reader.begin();
        return reader.settle(reader.takeObject(place));
    }

    public int entry(int place) throws IndexOutOfBoundsException {
        needPlace(place);
        reader.begin();
        int answer = reader.takeHead(place);
        if (answer == RIGHT) {
            answer = reader.takeObject(reader.place);
        }
        if (answer >= 0) {
            answer = reader.takeTail(answer);
        }
        return reader.settle(answer);
    }

    public int last(int what) {
        if (!reader.begun) {
            return NONE;
        }
        switch (what) {
            case 0:
                return reader.place;
            case 1:
                return reader.number;
            case 2:
                return reader.generation;
            default:
                return NONE;
        }
    }

    public int kind(int node) throws IndexOutOfBoundsException {
        needNode(node);
        return store.kindOf(node);
    }

    public int value(int node) throws IndexOutOfBoundsException {
        needNode(node);
        return store.valueOf(node);
    }

    public int byteAt(int node, int i) throws IndexOutOfBoundsException {
        needNode(node);
        return store.byteOf(node, i);
    }

    public int child(int node, int i, boolean key) throws IndexOutOfBoundsException {
        needNode(node);
        switch (store.kindOf(node)) {
            case IS_ARRAY:
                return store.partOf(node, i);
            case IS_DICTIONARY:
                return store.sideOf(node, i, key);
            case IS_REFERENCE:
            case IS_STREAM:
                return store.extraOf(node);
            default:
                return NONE;
        }
    }

    public int find(int node, int name) throws IndexOutOfBoundsException {
        needNode(node);
        needNode(name);
        int dictionary = store.unwrap(node);
        if (store.kindOf(dictionary) != IS_DICTIONARY || store.kindOf(name) != IS_NAME) {
            return NONE;
        }
        int found = store.lookUp(dictionary, name);
        return store.kindOf(found) == IS_NULL ? NONE : found;
    }

    public boolean alike(int one, int other) throws IndexOutOfBoundsException {
        needNode(one);
        needNode(other);
        if (store.kindOf(one) != store.kindOf(other)) {
            return false;
        }
        return store.sameTree(store.unwrap(one), store.unwrap(other));
    }

    public int write(int node) throws IndexOutOfBoundsException {
        needNode(node);
        return page.compose(store.unwrap(node));
    }

    public int written(int i) {
        return page.get(i);
    }

    public int rewind() {
        tape.become(page.bytes, page.size);
        return tape.size;
    }

    public int drop(int many) throws IllegalArgumentException {
        if (many < 0) {
            throw new IllegalArgumentException("less than no nodes");
        }
        if (many >= store.nodes) {
            return 0;
        }
        int left = store.objectBeginningAt(many);
        if (left == NONE) {
            throw new IllegalArgumentException("in the midst of an object");
        }
        return store.keepObjects(left);
    }

    public int count(int what) {
        switch (what) {
            case 0:
                return tape.size;
            case 1:
                return store.nodes;
            case 2:
                return store.used;
            case 3:
                return store.objects;
            default:
                return NONE;
        }
    }

    private void needPlace(int place) {
        if (place < 0 || place > tape.size) {
            throw new IndexOutOfBoundsException("the tape has no such place");
        }
    }

    private void needNode(int node) {
        if (!store.has(node)) {
            throw new IndexOutOfBoundsException("the store has no such node");
        }
    }

    /** What single bytes are. */
    private static final class Marks {
        static boolean isWhite(int b) {
            return b == 0 || b == 9 || b == LINE_FEED || b == 12 || b == RETURN || b == 32;
        }

        static boolean isRegular(int b) {
            switch (b) {
                case 0:
                case 9:
                case LINE_FEED:
                case 12:
                case RETURN:
                case 32:
                case '(':
                case ')':
                case '<':
                case '>':
                case '[':
                case ']':
                case '{':
                case '}':
                case '/':
                case '%':
                    return false;
                default:
                    return b >= 0;
            }
        }

        static int digitOf(int b) {
            return b >= '0' && b <= '9' ? b - '0' : NONE;
        }

        static int octalOf(int b) {
            return b >= '0' && b <= '7' ? b - '0' : NONE;
        }

        static int hexOf(int b) {
            if (b >= 'A' && b <= 'F') {
                return b - 'A' + 10;
            }
            if (b >= 'a' && b <= 'f') {
                return b - 'a' + 10;
            }
            return digitOf(b);
        }
    }

    /** The bytes that are read. */
    private static final class Tape {
        private final byte[] bytes;
        private int size;

        Tape() {
            bytes = new byte[TAPE_MOST];
        }

        int get(int i) {
            return i >= 0 && i < size ? bytes[i] & 255 : NONE;
        }

        void addFour(int four) {
            for (int shift = 24; shift >= 0; shift -= 8) {
                addOne(four >>> shift);
            }
        }

        private void addOne(int b) {
            if (size < bytes.length) {
                bytes[size] = (byte) b;
                size++;
            }
        }

        int change(int i, int b) {
            int before = get(i);
            if (before != NONE) {
                bytes[i] = (byte) b;
            }
            return before;
        }

        int shorten(int many) {
            int left = Math.min(many, size);
            int gone = size - left;
            size = left;
            return gone;
        }

        void become(byte[] others, int many) {
            int fitting = Math.min(many, Math.min(others.length, bytes.length));
            System.arraycopy(others, 0, bytes, 0, fitting);
            size = fitting;
        }

        /** The place of the next byte that is neither white nor in a comment, or the end. */
        int pastBlanks(int from) {
            boolean comment = false;
            for (int at = from; at < size; at++) {
                int b = get(at);
                if (b == LINE_FEED || b == RETURN) {
                    comment = false;
                } else if (b == '%') {
                    comment = true;
                } else if (!comment && !Marks.isWhite(b)) {
                    return at;
                }
            }
            return size;
        }

        /** The place behind the longest row of regular bytes, which may have none. */
        int pastWord(int from) {
            for (int at = from; at < size; at++) {
                if (!Marks.isRegular(get(at))) {
                    return at;
                }
            }
            return size;
        }

        /** The place behind 10, or 13 and 10; NONE if neither is there. */
        int pastLine(int from) {
            int first = get(from);
            if (first == LINE_FEED) {
                return from + 1;
            }
            return first == RETURN && get(from + 1) == LINE_FEED ? from + 2 : NONE;
        }

        boolean isText(int from, int to, byte[] text) {
            if (to - from != text.length) {
                return false;
            }
            for (int i = 0; i < text.length; i++) {
                if (get(from + i) != text[i]) {
                    return false;
                }
            }
            return true;
        }

        /** What digits alone are worth; NONE if others are among them or it is more than most. */
        int indexIn(int from, int to, int most) {
            int sum = NONE;
            for (int at = from; at < to; at++) {
                int digit = Marks.digitOf(get(at));
                if (digit == NONE) {
                    return NONE;
                }
                sum = Math.max(sum, 0) * 10 + digit;
                if (sum > most) {
                    return NONE;
                }
            }
            return sum;
        }
    }

    /** What a word is worth as a number. */
    private static final class Numeral {
        private static final long BILLION = 1000000000L;
        // Far above every number that is told apart, and far below where sums would wrap.
        private static final long PLENTY = 1L << 40;

        private boolean real;
        private int amount;

        /** Whether the word is a number; then it is also taken. */
        boolean takes(Tape tape, int from, int to) {
            int sign = tape.get(from);
            boolean point = false;
            int digits = 0;
            long whole = 0;
            long part = 0;
            long unit = BILLION / 10;
            for (int at = sign == '-' || sign == '+' ? from + 1 : from; at < to; at++) {
                int b = tape.get(at);
                int digit = Marks.digitOf(b);
                if (b == '.' && !point) {
                    point = true;
                } else if (digit == NONE) {
                    return false;
                } else {
                    digits++;
                    if (point) {
                        part += unit * digit;
                        // From the tenth digit on the unit is 0, so that nine count.
                        unit /= 10;
                    } else {
                        whole = Math.min(whole * 10 + digit, PLENTY);
                    }
                }
            }
            if (digits == 0) {
                return false;
            }
            real = point || whole > AMOUNT_MOST;
            long size = real ? inParts(whole, part) : whole;
            amount = (int) (sign == '-' ? -size : size);
            return true;
        }

        private static long inParts(long whole, long part) {
            long rounded = (part * 65536 + BILLION / 2) / BILLION;
            return Math.min(whole * 65536 + rounded, AMOUNT_MOST);
        }
    }

    /** The nodes, each behind the one that it lies in, and the bytes of their strings and names. */
    private static final class Store {
        private final byte[] kinds;
        private final int[] values;
        // Of a reference its generation, of a stream its dictionary.
        private final int[] extras;
        // The node behind all that lies in a node.
        private final int[] ends;
        // How many bytes the nodes before have: where a string's or name's own begin.
        private final int[] starts;
        // The first node of each object that was read.
        private final int[] firsts;
        private final byte[] bytes;
        private int nodes;
        private int used;
        private int objects;
        // Bytes of a token that has no node yet; may be more than there is room for.
        private int drafted;

        Store() {
            kinds = new byte[NODES_MOST];
            values = new int[NODES_MOST];
            extras = new int[NODES_MOST];
            ends = new int[NODES_MOST];
            starts = new int[NODES_MOST];
            firsts = new int[NODES_MOST];
            bytes = new byte[BYTES_MOST];
        }

        boolean has(int node) {
            return node >= 0 && node < nodes;
        }

        int kindOf(int node) {
            return node >= 0 && node < nodes ? kinds[node] : NONE;
        }

        int valueOf(int node) {
            return node >= 0 && node < nodes ? values[node] : NONE;
        }

        int extraOf(int node) {
            return node >= 0 && node < nodes ? extras[node] : NONE;
        }

        /** The node behind all that lies in a node; a walk over ends never goes back. */
        int endOf(int node) {
            return node >= 0 && node < nodes ? ends[node] : nodes;
        }

        boolean hasBytes(int node) {
            int what = kindOf(node);
            return what == IS_STRING || what == IS_NAME;
        }

        int byteOf(int node, int i) {
            if (!hasBytes(node) || i < 0 || i >= values[node]) {
                return NONE;
            }
            int at = starts[node] + i;
            return at >= 0 && at < used ? bytes[at] & 255 : NONE;
        }

        int unwrap(int node) {
            return kindOf(node) == IS_STREAM ? extraOf(node) : node;
        }

        void clearDraft() {
            drafted = 0;
        }

        void draft(int b) {
            int at = used + drafted;
            if (at < bytes.length) {
                bytes[at] = (byte) b;
            }
            drafted++;
        }

        /** A new last node with the drafted bytes; NONE if the store has no room for it. */
        int add(int what, int worth, int extra) {
            if (nodes >= NODES_MOST || used + drafted > BYTES_MOST) {
                return NONE;
            }
            int node = nodes;
            kinds[node] = (byte) what;
            values[node] = worth;
            extras[node] = extra;
            ends[node] = node + 1;
            starts[node] = used;
            nodes++;
            used += drafted;
            drafted = 0;
            return node;
        }

        void addPart(int node) {
            if (node >= 0 && node < nodes) {
                values[node]++;
            }
        }

        void close(int node) {
            if (node >= 0 && node < nodes) {
                ends[node] = nodes;
            }
        }

        void addObject(int first) {
            if (objects < firsts.length) {
                firsts[objects] = first;
                objects++;
            }
        }

        void goBack(int nodesBefore, int usedBefore) {
            nodes = nodesBefore;
            used = usedBefore;
            drafted = 0;
        }

        /** How many objects lie before the one that begins at a node; NONE if none does. */
        int objectBeginningAt(int node) {
            for (int i = 0; i < objects; i++) {
                if (firsts[i] == node) {
                    return i;
                }
            }
            return NONE;
        }

        /** Keeps the first objects alone; how many nodes are gone. */
        int keepObjects(int left) {
            if (left < 0 || left >= objects || !has(firsts[left])) {
                return 0;
            }
            int first = firsts[left];
            int gone = nodes - first;
            used = starts[first];
            nodes = first;
            objects = left;
            return gone;
        }

        int partOf(int array, int i) {
            if (i < 0 || i >= valueOf(array)) {
                return NONE;
            }
            int part = array + 1;
            for (int passed = 0; passed < i; passed++) {
                part = endOf(part);
            }
            return part;
        }

        int sideOf(int dictionary, int i, boolean key) {
            if (i < 0 || i >= valueOf(dictionary)) {
                return NONE;
            }
            int side = dictionary + 1;
            for (int passed = 0; passed < i; passed++) {
                side = endOf(side + 1);
            }
            return key ? side : side + 1;
        }

        /** The value of the last entry whose key has a name's bytes; NONE if there is none. */
        int lookUp(int dictionary, int name) {
            int found = NONE;
            int key = dictionary + 1;
            for (int i = 0; i < valueOf(dictionary); i++) {
                if (sameBytes(key, name)) {
                    found = key + 1;
                }
                key = endOf(key + 1);
            }
            return found;
        }

        boolean sameTree(int one, int other) {
            int many = endOf(one) - one;
            if (many != endOf(other) - other) {
                return false;
            }
            // Kinds and counts, node by node in their order, settle how they lie in one another.
            for (int i = 0; i < many; i++) {
                if (!sameNode(one + i, other + i)) {
                    return false;
                }
            }
            return true;
        }

        private boolean sameNode(int one, int other) {
            if (kindOf(one) != kindOf(other) || valueOf(one) != valueOf(other)) {
                return false;
            }
            return extraOf(one) == extraOf(other) && (!hasBytes(one) || sameBytes(one, other));
        }

        private boolean sameBytes(int one, int other) {
            int many = valueOf(one);
            if (many != valueOf(other)) {
                return false;
            }
            for (int i = 0; i < many; i++) {
                if (byteOf(one, i) != byteOf(other, i)) {
                    return false;
                }
            }
            return true;
        }
    }

    /** The token that was looked at last; the bytes of a string or name are drafted in the store. */
    private static final class Tokens {
        private static final int END = 0;
        private static final int ARRAY_BEGIN = 1;
        private static final int ARRAY_END = 2;
        private static final int DICTIONARY_BEGIN = 3;
        private static final int DICTIONARY_END = 4;
        private static final int QUOTED = 5;
        private static final int NAMED = 6;
        private static final int WORD = 7;
        private static final int BAD = 8;

        private final Tape tape;
        private final Store store;
        private int type;
        private int start;
        private int past;
        // What is wrong with the token itself, wherever it stands.
        private int flaw;

        Tokens(Tape tape, Store store) {
            this.tape = tape;
            this.store = store;
        }

        /** Looks at the next token as a word; it has no bytes if it is another token. */
        void seekWord(int from) {
            start = tape.pastBlanks(from);
            past = tape.pastWord(start);
        }

        boolean isText(byte[] text) {
            return tape.isText(start, past, text);
        }

        int indexUpTo(int most) {
            return tape.indexIn(start, past, most);
        }

        void seek(int from) {
            start = tape.pastBlanks(from);
            flaw = RIGHT;
            store.clearDraft();
            boolean twice = tape.get(start) == tape.get(start + 1);
            switch (tape.get(start)) {
                case NONE:
                    become(END, 0);
                    flaw = ENDED;
                    break;
                case '[':
                    become(ARRAY_BEGIN, 1);
                    break;
                case ']':
                    become(ARRAY_END, 1);
                    break;
                case '<':
                    if (twice) {
                        become(DICTIONARY_BEGIN, 2);
                    } else {
                        seekHex();
                    }
                    break;
                case '>':
                    become(twice ? DICTIONARY_END : BAD, twice ? 2 : 1);
                    break;
                case '(':
                    seekLiteral();
                    break;
                case '/':
                    seekName();
                    break;
                default:
                    int length = tape.pastWord(start) - start;
                    become(length > 0 ? WORD : BAD, Math.max(1, length));
                    break;
            }
        }

        private void become(int what, int length) {
            type = what;
            past = start + length;
        }

        private void seekHex() {
            type = QUOTED;
            int high = NONE;
            for (int at = start + 1; at < tape.size; at++) {
                int b = tape.get(at);
                int digit = Marks.hexOf(b);
                if (b == '>') {
                    if (high != NONE) {
                        store.draft(high * 16);
                    }
                    past = at + 1;
                    return;
                }
                if (digit == NONE) {
                    flaw = Marks.isWhite(b) ? flaw : STRING;
                } else if (high == NONE) {
                    high = digit;
                } else {
                    store.draft(high * 16 + digit);
                    high = NONE;
                }
            }
            // An end that does not come is told before the other bytes.
            flaw = ENDED;
        }

        private void seekLiteral() {
            type = QUOTED;
            int open = 0;
            int taken = 1;
            for (int at = start; at < tape.size; at += Math.max(1, taken)) {
                int b = tape.get(at);
                taken = 1;
                open += b == '(' ? 1 : b == ')' ? -1 : 0;
                if (open == 0) {
                    past = at + 1;
                    return;
                }
                if (b == '\\') {
                    taken = draftEscape(at + 1) + 1;
                } else if (b == RETURN) {
                    store.draft(LINE_FEED);
                    taken = lineLength(at);
                } else if (at > start) {
                    store.draft(b);
                }
            }
            flaw = ENDED;
        }

        private int lineLength(int at) {
            return tape.get(at) == RETURN && tape.get(at + 1) == LINE_FEED ? 2 : 1;
        }

        /** Drafts what stands behind a \; of how many bytes it is made. */
        private int draftEscape(int at) {
            int b = tape.get(at);
            if (b == NONE) {
                return 0;
            }
            if (b == RETURN || b == LINE_FEED) {
                return lineLength(at);
            }
            if (Marks.octalOf(b) != NONE) {
                return draftOctal(at);
            }
            store.draft(escaped(b));
            return 1;
        }

        private int draftOctal(int from) {
            int sum = 0;
            int length = 0;
            for (int i = 0; i < 3; i++) {
                int digit = Marks.octalOf(tape.get(from + i));
                if (digit == NONE) {
                    break;
                }
                sum = sum * 8 + digit;
                length++;
            }
            store.draft(sum & 255);
            return length;
        }

        private static int escaped(int b) {
            switch (b) {
                case 'n':
                    return LINE_FEED;
                case 'r':
                    return RETURN;
                case 't':
                    return 9;
                case 'b':
                    return 8;
                case 'f':
                    return 12;
                default:
                    return b;
            }
        }

        private void seekName() {
            type = NAMED;
            past = tape.pastWord(start + 1);
            int taken = 1;
            for (int at = start + 1; at < past; at += Math.max(1, taken)) {
                int b = tape.get(at);
                int high = Marks.hexOf(tape.get(at + 1));
                int low = Marks.hexOf(tape.get(at + 2));
                taken = 1;
                if (b == '#' && high != NONE && low != NONE) {
                    b = high * 16 + low;
                    taken = 3;
                }
                if (b == 0) {
                    flaw = NAME;
                }
                store.draft(b);
            }
            if (store.drafted > NAME_MOST) {
                flaw = NAME;
            }
        }
    }

    /** Reads objects from the tape into the store, and remembers how the latest reading went. */
    private static final class Reader {
        private final Tape tape;
        private final Store store;
        private final Tokens tokens;
        private final Numeral numeral;
        // The arrays and dictionaries that have begun and not ended, the outermost first.
        private final int[] open;
        private int depth;
        private boolean keyDue;
        private int nodesBefore;
        private int usedBefore;
        private boolean begun;
        private int place;
        private int number;
        private int generation;

        Reader(Tape tape, Store store) {
            this.tape = tape;
            this.store = store;
            tokens = new Tokens(tape, store);
            numeral = new Numeral();
            open = new int[DEPTH_MOST];
        }

        void begin() {
            begun = true;
            number = 0;
            generation = 0;
            nodesBefore = store.nodes;
            usedBefore = store.used;
        }

        int settle(int answer) {
            if (answer < 0) {
                store.goBack(nodesBefore, usedBefore);
            } else {
                store.addObject(nodesBefore);
            }
            return answer;
        }

        private int fail(int fault) {
            place = fault == ENDED ? tape.size : tokens.start;
            return fault;
        }

        /** Takes number, generation and obj; what follows them begins at the place then told. */
        int takeHead(int from) {
            tokens.seekWord(from);
            int first = tokens.indexUpTo(NUMBER_MOST);
            if (first == NONE) {
                return fail(HEAD);
            }
            number = first;
            tokens.seekWord(tokens.past);
            int second = tokens.indexUpTo(GENERATION_MOST);
            if (second == NONE) {
                return fail(HEAD);
            }
            generation = second;
            tokens.seekWord(tokens.past);
            if (!tokens.isText(BEGIN_WORD)) {
                return fail(HEAD);
            }
            place = tokens.past;
            return RIGHT;
        }

        /** Takes what must stand behind an indirect object, from the place told on. */
        int takeTail(int node) {
            tokens.seekWord(place);
            if (tokens.isText(END_WORD)) {
                place = tokens.past;
                return node;
            }
            if (store.kindOf(node) != IS_DICTIONARY || !tokens.isText(STREAM_WORD)) {
                return fail(BODY);
            }
            int bytesBegin = tape.pastLine(tokens.past);
            if (bytesBegin == NONE) {
                return fail(STREAM);
            }
            int stream = store.add(IS_STREAM, bytesBegin, node);
            if (stream == NONE) {
                return fail(FULL);
            }
            place = bytesBegin;
            return stream;
        }

        int takeObject(int from) {
            int node = store.nodes;
            int at = from;
            depth = 0;
            keyDue = false;
            // Every token has a byte at least, but for the end.
            for (int turn = 0; turn <= TAPE_MOST; turn++) {
                tokens.seek(at);
                int fault = tokens.flaw;
                if (fault == RIGHT) {
                    fault = keyDue ? takeKey() : takeToken();
                }
                if (fault != RIGHT) {
                    return fail(fault);
                }
                if (depth == 0) {
                    place = tokens.past;
                    return node;
                }
                at = tokens.past;
            }
            return fail(ENDED);
        }

        private int takeKey() {
            if (tokens.type == Tokens.DICTIONARY_END) {
                return takeEnd();
            }
            if (tokens.type != Tokens.NAMED) {
                return KEY;
            }
            if (store.add(IS_NAME, store.drafted, 0) == NONE) {
                return FULL;
            }
            keyDue = false;
            return RIGHT;
        }

        private int takeToken() {
            switch (tokens.type) {
                case Tokens.ARRAY_BEGIN:
                    return takeBegin(IS_ARRAY);
                case Tokens.DICTIONARY_BEGIN:
                    return takeBegin(IS_DICTIONARY);
                case Tokens.ARRAY_END:
                    return store.kindOf(innermost()) == IS_ARRAY ? takeEnd() : TOKEN;
                case Tokens.QUOTED:
                    return takeLeaf(IS_STRING, store.drafted, 0);
                case Tokens.NAMED:
                    return takeLeaf(IS_NAME, store.drafted, 0);
                case Tokens.WORD:
                    return takeWord();
                default:
                    return TOKEN;
            }
        }

        private int innermost() {
            return depth > 0 && depth <= open.length ? open[depth - 1] : NONE;
        }

        private int takeBegin(int what) {
            if (depth >= open.length) {
                return DEEP;
            }
            int node = store.add(what, 0, 0);
            if (node == NONE) {
                return FULL;
            }
            open[depth] = node;
            depth++;
            keyDue = what == IS_DICTIONARY;
            return RIGHT;
        }

        private int takeEnd() {
            store.close(innermost());
            depth = Math.max(0, depth - 1);
            countInParent();
            return RIGHT;
        }

        private int takeLeaf(int what, int worth, int extra) {
            if (store.add(what, worth, extra) == NONE) {
                return FULL;
            }
            countInParent();
            return RIGHT;
        }

        private void countInParent() {
            int parent = innermost();
            store.addPart(parent);
            keyDue = store.kindOf(parent) == IS_DICTIONARY;
        }

        private int takeWord() {
            int first = tokens.indexUpTo(NUMBER_MOST);
            if (first != NONE) {
                int second = seekReference();
                if (second != NONE) {
                    return takeLeaf(IS_REFERENCE, first, second);
                }
            }
            if (tokens.isText(NULL_WORD)) {
                return takeLeaf(IS_NULL, 0, 0);
            }
            if (tokens.isText(TRUE_WORD)) {
                return takeLeaf(IS_TRUTH, 1, 0);
            }
            if (tokens.isText(FALSE_WORD)) {
                return takeLeaf(IS_TRUTH, 0, 0);
            }
            if (numeral.takes(tape, tokens.start, tokens.past)) {
                return takeLeaf(numeral.real ? IS_REAL : IS_INTEGER, numeral.amount, 0);
            }
            return TOKEN;
        }

        /** The generation, if a reference's other two words follow; the token then ends behind them. */
        private int seekReference() {
            int secondStart = tape.pastBlanks(tokens.past);
            int secondPast = tape.pastWord(secondStart);
            int second = tape.indexIn(secondStart, secondPast, GENERATION_MOST);
            if (second == NONE) {
                return NONE;
            }
            int thirdStart = tape.pastBlanks(secondPast);
            int thirdPast = tape.pastWord(thirdStart);
            if (!tape.isText(thirdStart, thirdPast, REFERENCE_WORD)) {
                return NONE;
            }
            tokens.past = thirdPast;
            return second;
        }
    }

    /** What was written last, and a second row on which the next one is made. */
    private static final class Page {
        private final Store store;
        private final int[] open;
        private int depth;
        private byte[] bytes;
        private int size;
        private byte[] next;
        private int nextSize;
        private boolean over;

        Page(Store store) {
            this.store = store;
            open = new int[DEPTH_MOST];
            bytes = new byte[TAPE_MOST];
            next = new byte[TAPE_MOST];
        }

        int get(int i) {
            return i >= 0 && i < size ? bytes[i] & 255 : NONE;
        }

        int compose(int node) {
            int end = store.endOf(node);
            depth = 0;
            nextSize = 0;
            over = false;
            for (int at = node; at < end && !over; at++) {
                addEndsBefore(at);
                addNode(at);
            }
            addEndsBefore(end);
            if (over) {
                return FULL;
            }
            byte[] before = bytes;
            bytes = next;
            next = before;
            size = nextSize;
            return size;
        }

        private void addEndsBefore(int node) {
            for (int level = depth; level > 0 && level <= open.length; level--) {
                int inner = open[level - 1];
                if (store.endOf(inner) > node) {
                    return;
                }
                addBracket(store.kindOf(inner) == IS_ARRAY ? ']' : '>');
                depth = level - 1;
            }
        }

        private void addNode(int node) {
            int worth = store.valueOf(node);
            switch (store.kindOf(node)) {
                case IS_NULL:
                    addWord(NULL_WORD);
                    break;
                case IS_TRUTH:
                    addWord(worth == 1 ? TRUE_WORD : FALSE_WORD);
                    break;
                case IS_INTEGER:
                    addInteger(worth);
                    break;
                case IS_REAL:
                    addReal(worth);
                    break;
                case IS_STRING:
                    addString(node);
                    break;
                case IS_NAME:
                    addName(node);
                    break;
                case IS_ARRAY:
                    addBegin(node, '[');
                    break;
                case IS_DICTIONARY:
                    addBegin(node, '<');
                    break;
                case IS_REFERENCE:
                    addInteger(worth);
                    addInteger(store.extraOf(node));
                    addWord(REFERENCE_WORD);
                    break;
                default:
                    break;
            }
        }

        private void addBegin(int node, int bracket) {
            addBracket(bracket);
            if (depth < open.length) {
                open[depth] = node;
                depth++;
            }
        }

        /** Adds the bracket of an array, or twice that of a dictionary. */
        private void addBracket(int bracket) {
            beginToken();
            add(bracket);
            if (bracket == '<' || bracket == '>') {
                add(bracket);
            }
        }

        private void addInteger(int worth) {
            beginToken();
            addSign(worth);
            addDigits(Math.abs(worth));
        }

        private void addReal(int worth) {
            int amount = Math.abs(worth);
            int rest = amount & 65535;
            beginToken();
            addSign(worth);
            addDigits(amount >> 16);
            add('.');
            // A 65,536th has sixteen digits behind the point.
            for (int i = 0; i < 16 && (i == 0 || rest > 0); i++) {
                rest *= 10;
                add('0' + (rest >> 16));
                rest &= 65535;
            }
        }

        private void addSign(int worth) {
            if (worth < 0) {
                add('-');
            }
        }

        private void addDigits(int worth) {
            for (int unit = 1000000000; unit > 0; unit /= 10) {
                if (worth >= unit || unit == 1) {
                    add('0' + worth / unit % 10);
                }
            }
        }

        private void addString(int node) {
            beginToken();
            add('<');
            for (int i = 0; i < store.valueOf(node); i++) {
                addHex(store.byteOf(node, i));
            }
            add('>');
        }

        private void addName(int node) {
            beginToken();
            add('/');
            for (int i = 0; i < store.valueOf(node); i++) {
                int b = store.byteOf(node, i);
                if (b >= 33 && b <= 126 && b != '#' && Marks.isRegular(b)) {
                    add(b);
                } else {
                    add('#');
                    addHex(b);
                }
            }
        }

        private void addHex(int b) {
            add(hexDigit(b >> 4 & 15));
            add(hexDigit(b & 15));
        }

        private static int hexDigit(int digit) {
            return digit < 10 ? '0' + digit : 'A' + digit - 10;
        }

        private void addWord(byte[] text) {
            beginToken();
            for (int i = 0; i < text.length; i++) {
                add(text[i]);
            }
        }

        /** A blank stands between two tokens, and nowhere else. */
        private void beginToken() {
            if (nextSize > 0) {
                add(' ');
            }
        }

        private void add(int b) {
            if (nextSize < next.length) {
                next[nextSize] = (byte) b;
                nextSize++;
            } else {
                over = true;
            }
        }
    }
}
