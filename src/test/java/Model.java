import java.math.BigDecimal;
import java.math.BigInteger;
import java.math.RoundingMode;
import java.util.ArrayList;
import java.util.List;
import java.util.regex.Matcher;
import java.util.regex.Pattern;

/**
 * The document once more, in the plainest Java there is: texts, lists, regular expressions and
 * recursion. ModelTest compares its answers with those of SheetObjects.
 */
final class Model {
    private static final Pattern BLANKS = Pattern.compile("(?:[\\x00\\t\\n\\f\\r ]|%[^\\n\\r]*+)*+");
    private static final Pattern ROW =
            Pattern.compile("[^\\x00\\t\\n\\f\\r ()<>\\[\\]{}/%]*+");
    private static final Pattern NUMBER = Pattern.compile("[+-]?(?=\\.?[0-9])[0-9]*(\\.[0-9]*)?");
    private static final BigInteger MOST = BigInteger.valueOf(Integer.MAX_VALUE);

    /** A node; in a dictionary keys and values take turns in parts. */
    private static final class Node {
        private final int kind;
        private long value;
        private String bytes = "";
        private int generation;
        private final List<Integer> parts = new ArrayList<>();

        Node(int kind, long value) {
            this.kind = kind;
            this.value = value;
        }
    }

    /** What is wrong, and where. */
    private static final class Wrong extends Exception {
        private static final long serialVersionUID = 1;
        private final int code;
        private final int place;

        Wrong(int code, int place) {
            super("wrong", null, false, false);
            this.code = code;
            this.place = place;
        }
    }

    private static final class Token {
        private String type;
        private String text = "";
        private int start;
        private int past;
    }

    private String tape = "";
    private String page = "";
    private final List<Node> nodes = new ArrayList<>();
    private final List<Integer> firsts = new ArrayList<>();
    private final int[] last = {-1, -1, -1};

    int feed(int a, int b, int c, int d, int e) {
        if (tape.length() > 65516) {
            return -1;
        }
        StringBuilder more = new StringBuilder(tape);
        for (int four : new int[] {a, b, c, d, e}) {
            for (byte one : BigInteger.valueOf(four & 0xFFFFFFFFL | 1L << 32).toByteArray()) {
                more.append((char) (one & 255));
            }
            more.deleteCharAt(more.length() - 5);
        }
        tape = more.toString();
        return tape.length();
    }

    int put(int i, int b) {
        if (i < 0 || i >= tape.length()) {
            throw new IndexOutOfBoundsException();
        }
        if (b < 0 || b > 255) {
            throw new IllegalArgumentException();
        }
        int before = tape.charAt(i);
        tape = tape.substring(0, i) + (char) b + tape.substring(i + 1);
        return before;
    }

    int cut(int many) {
        if (many < 0) {
            throw new IllegalArgumentException();
        }
        int before = tape.length();
        tape = tape.substring(0, Math.min(many, before));
        return before - tape.length();
    }

    int read(int place) {
        return reading(place, false);
    }

    int entry(int place) {
        return reading(place, true);
    }

    private int reading(int place, boolean indirect) {
        if (place < 0 || place > tape.length()) {
            throw new IndexOutOfBoundsException();
        }
        int before = nodes.size();
        last[1] = 0;
        last[2] = 0;
        try {
            int answer;
            if (indirect) {
                answer = indirect(place);
            } else {
                last[0] = object(token(place), 0);
                answer = before;
            }
            firsts.add(before);
            return answer;
        } catch (Wrong wrong) {
            while (nodes.size() > before) {
                nodes.remove(nodes.size() - 1);
            }
            last[0] = wrong.place;
            return wrong.code;
        }
    }

    private int indirect(int place) throws Wrong {
        int before = nodes.size();
        Token token = word(place);
        last[1] = index(token, 8388607, true);
        token = word(token.past);
        last[2] = index(token, 65535, true);
        token = word(token.past);
        if (!token.text.equals("obj")) {
            throw new Wrong(-9, token.start);
        }
        token = word(object(token(token.past), 0));
        if (token.text.equals("endobj")) {
            last[0] = token.past;
            return before;
        }
        if (!token.text.equals("stream") || nodes.get(before).kind != 7) {
            throw new Wrong(-10, token.start);
        }
        String rest = tape.substring(token.past, Math.min(token.past + 2, tape.length()));
        if (!rest.startsWith("\n") && !rest.equals("\r\n")) {
            throw new Wrong(-8, token.start);
        }
        int begin = token.past + (rest.startsWith("\n") ? 1 : 2);
        Node stream = new Node(9, begin);
        stream.parts.add(before);
        add(stream, token);
        last[0] = begin;
        return nodes.size() - 1;
    }

    private int index(Token word, int most, boolean head) throws Wrong {
        boolean fits = word.text.matches("[0-9]+")
                && new BigInteger(word.text).compareTo(BigInteger.valueOf(most)) <= 0;
        if (!fits && head) {
            throw new Wrong(-9, word.start);
        }
        return fits ? new BigInteger(word.text).intValue() : -1;
    }

    private int past(Pattern pattern, int from) {
        Matcher matcher = pattern.matcher(tape);
        matcher.region(from, tape.length());
        return matcher.lookingAt() ? matcher.end() : from;
    }

    private Token word(int from) {
        Token token = new Token();
        token.type = "word";
        token.start = past(BLANKS, from);
        token.past = past(ROW, token.start);
        token.text = tape.substring(token.start, token.past);
        return token;
    }

    private Token token(int from) throws Wrong {
        Token token = word(from);
        String rest = tape.substring(token.start);
        if (rest.isEmpty()) {
            throw new Wrong(-1, tape.length());
        }
        if (!token.text.isEmpty()) {
            return token;
        }
        for (String sign : new String[] {"[", "]", "<<", ">>"}) {
            if (rest.startsWith(sign)) {
                token.type = sign;
                token.past = token.start + sign.length();
                return token;
            }
        }
        if (rest.startsWith("(")) {
            literal(token);
        } else if (rest.startsWith("<")) {
            hexadecimal(token);
        } else if (rest.startsWith("/")) {
            name(token);
        } else {
            token.type = "bad";
            token.past = token.start + 1;
        }
        return token;
    }

    private void literal(Token token) throws Wrong {
        StringBuilder text = new StringBuilder();
        int at = token.start + 1;
        int pairs = 0;
        token.type = "string";
        while (at < tape.length()) {
            String rest = tape.substring(at, Math.min(at + 4, tape.length()));
            char c = rest.charAt(0);
            if (c == ')' && pairs == 0) {
                token.text = text.toString();
                token.past = at + 1;
                return;
            }
            Matcher octal = Pattern.compile("\\\\([0-7]{1,3})").matcher(rest);
            if (rest.startsWith("\\\r\n")) {
                at += 3;
            } else if (rest.startsWith("\\\r") || rest.startsWith("\\\n") || rest.equals("\\")) {
                at += 2;
            } else if (octal.lookingAt()) {
                text.append((char) (Integer.parseInt(octal.group(1), 8) % 256));
                at += octal.end();
            } else if (c == '\\') {
                int which = "nrtbf".indexOf(rest.charAt(1));
                text.append(which < 0 ? rest.charAt(1) : "\n\r\t\b\f".charAt(which));
                at += 2;
            } else if (c == '\r' || c == '\n') {
                text.append('\n');
                at += rest.startsWith("\r\n") ? 2 : 1;
            } else {
                pairs += c == '(' ? 1 : 0;
                pairs -= c == ')' ? 1 : 0;
                text.append(c);
                at++;
            }
        }
        throw new Wrong(-1, tape.length());
    }

    private void hexadecimal(Token token) throws Wrong {
        int end = tape.indexOf('>', token.start);
        if (end < 0) {
            throw new Wrong(-1, tape.length());
        }
        String digits = tape.substring(token.start + 1, end).replaceAll("[\\x00\\t\\n\\f\\r ]", "");
        if (!digits.matches("[0-9a-fA-F]*+")) {
            throw new Wrong(-3, token.start);
        }
        digits += digits.length() % 2 == 0 ? "" : "0";
        StringBuilder text = new StringBuilder();
        for (int i = 0; i < digits.length(); i += 2) {
            text.append((char) Integer.parseInt(digits.substring(i, i + 2), 16));
        }
        token.type = "string";
        token.text = text.toString();
        token.past = end + 1;
    }

    private void name(Token token) throws Wrong {
        token.type = "name";
        token.past = past(ROW, token.start + 1);
        StringBuffer text = new StringBuffer();
        Matcher matcher = Pattern.compile("#([0-9a-fA-F]{2})")
                .matcher(tape.substring(token.start + 1, token.past));
        while (matcher.find()) {
            char c = (char) Integer.parseInt(matcher.group(1), 16);
            matcher.appendReplacement(text, Matcher.quoteReplacement(String.valueOf(c)));
        }
        matcher.appendTail(text);
        token.text = text.toString();
        if (text.length() > 127 || token.text.indexOf(0) >= 0) {
            throw new Wrong(-4, token.start);
        }
    }

    private void add(Node node, Token token) throws Wrong {
        if (nodes.size() == 4000 || count(2) + node.bytes.length() > 32768) {
            throw new Wrong(-7, token.start);
        }
        nodes.add(node);
    }

    /** Takes the object that a token begins; the place behind it. */
    private int object(Token token, int depth) throws Wrong {
        switch (token.type) {
            case "[":
            case "<<":
                return container(token, depth);
            case "string":
            case "name":
                Node text = new Node(token.type.equals("name") ? 5 : 4, token.text.length());
                text.bytes = token.text;
                add(text, token);
                return token.past;
            case "word":
                return wordObject(token);
            default:
                throw new Wrong(-2, token.start);
        }
    }

    private int container(Token token, int depth) throws Wrong {
        if (depth == 100) {
            throw new Wrong(-6, token.start);
        }
        boolean array = token.type.equals("[");
        Node node = new Node(array ? 6 : 7, 0);
        add(node, token);
        Token next = token(token.past);
        while (!next.type.equals(array ? "]" : ">>")) {
            node.parts.add(nodes.size());
            if (!array) {
                if (!next.type.equals("name")) {
                    throw new Wrong(-5, next.start);
                }
                next = token(object(next, depth + 1));
                node.parts.add(nodes.size());
            }
            int past = object(next, depth + 1);
            node.value++;
            next = token(past);
        }
        return next.past;
    }

    private int wordObject(Token token) throws Wrong {
        Token second = word(token.past);
        Token third = word(second.past);
        int number = index(token, 8388607, false);
        int generation = index(second, 65535, false);
        if (number >= 0 && generation >= 0 && third.text.equals("R")) {
            Node reference = new Node(8, number);
            reference.generation = generation;
            add(reference, token);
            return third.past;
        }
        switch (token.text) {
            case "null":
                add(new Node(0, 0), token);
                break;
            case "true":
                add(new Node(1, 1), token);
                break;
            case "false":
                add(new Node(1, 0), token);
                break;
            default:
                if (!NUMBER.matcher(token.text).matches()) {
                    throw new Wrong(-2, token.start);
                }
                add(number(token.text), token);
                break;
        }
        return token.past;
    }

    private static Node number(String text) {
        BigDecimal exact = new BigDecimal(text.endsWith(".") ? text + "0" : text);
        if (text.indexOf('.') < 0 && exact.toBigInteger().abs().compareTo(MOST) <= 0) {
            return new Node(2, exact.longValue());
        }
        BigInteger parts = exact.setScale(Math.min(exact.scale(), 9), RoundingMode.DOWN)
                .multiply(BigDecimal.valueOf(65536)).setScale(0, RoundingMode.HALF_UP).toBigInteger();
        return new Node(3, parts.min(MOST).max(MOST.negate()).longValue());
    }

    int last(int what) {
        return what < 0 || what > 2 ? -1 : last[what];
    }

    private Node node(int node) {
        if (node < 0 || node >= nodes.size()) {
            throw new IndexOutOfBoundsException();
        }
        return nodes.get(node);
    }

    int kind(int node) {
        return node(node).kind;
    }

    int value(int node) {
        return (int) node(node).value;
    }

    int byteAt(int node, int i) {
        String bytes = node(node).bytes;
        return i >= 0 && i < bytes.length() ? bytes.charAt(i) : -1;
    }

    int child(int node, int i, boolean key) {
        Node parent = node(node);
        if (parent.kind == 8) {
            return parent.generation;
        }
        if (parent.kind == 9) {
            return parent.parts.get(0);
        }
        if (i < 0 || i >= parent.value || parent.kind < 6) {
            return -1;
        }
        return parent.parts.get(parent.kind == 6 ? i : key ? 2 * i : 2 * i + 1);
    }

    int find(int node, int name) {
        Node dictionary = node(node);
        Node key = node(name);
        if (dictionary.kind == 9) {
            dictionary = nodes.get(dictionary.parts.get(0));
        }
        if (dictionary.kind != 7 || key.kind != 5) {
            return -1;
        }
        for (int i = dictionary.parts.size() - 2; i >= 0; i -= 2) {
            if (nodes.get(dictionary.parts.get(i)).bytes.equals(key.bytes)) {
                int found = dictionary.parts.get(i + 1);
                return nodes.get(found).kind == 0 ? -1 : found;
            }
        }
        return -1;
    }

    boolean alike(int one, int other) {
        Node first = node(one);
        Node second = node(other);
        if (first.kind != second.kind || first.kind != 9 && first.value != second.value
                || first.generation != second.generation || !first.bytes.equals(second.bytes)
                || first.parts.size() != second.parts.size()) {
            return false;
        }
        for (int i = 0; i < first.parts.size(); i++) {
            if (!alike(first.parts.get(i), second.parts.get(i))) {
                return false;
            }
        }
        return true;
    }

    int write(int node) {
        List<String> tokens = new ArrayList<>();
        node(node);
        list(node, tokens);
        String text = String.join(" ", tokens);
        if (text.length() > 65536) {
            return -7;
        }
        page = text;
        return text.length();
    }

    private void list(int which, List<String> tokens) {
        Node node = nodes.get(which);
        if (node.kind == 9) {
            list(node.parts.get(0), tokens);
        } else if (node.kind == 6 || node.kind == 7) {
            tokens.add(node.kind == 6 ? "[" : "<<");
            for (int part : node.parts) {
                list(part, tokens);
            }
            tokens.add(node.kind == 6 ? "]" : ">>");
        } else {
            tokens.add(leaf(node));
        }
    }

    private static String leaf(Node node) {
        switch (node.kind) {
            case 0:
                return "null";
            case 1:
                return node.value == 1 ? "true" : "false";
            case 2:
                return Long.toString(node.value);
            case 3:
                BigDecimal exact = BigDecimal.valueOf(node.value).divide(BigDecimal.valueOf(65536))
                        .stripTrailingZeros();
                return exact.setScale(Math.max(exact.scale(), 1)).toPlainString();
            case 4:
                StringBuilder digits = new StringBuilder("<");
                for (char c : node.bytes.toCharArray()) {
                    digits.append(String.format("%02X", (int) c));
                }
                return digits.append('>').toString();
            case 5:
                StringBuilder text = new StringBuilder("/");
                for (char c : node.bytes.toCharArray()) {
                    boolean plain = c >= 33 && c <= 126 && "()<>[]{}/%#".indexOf(c) < 0;
                    text.append(plain ? String.valueOf(c) : String.format("#%02X", (int) c));
                }
                return text.toString();
            default:
                return node.value + " " + node.generation + " R";
        }
    }

    int written(int i) {
        return i >= 0 && i < page.length() ? page.charAt(i) : -1;
    }

    int rewind() {
        tape = page;
        return tape.length();
    }

    int drop(int many) {
        if (many < 0 || many < nodes.size() && !firsts.contains(many)) {
            throw new IllegalArgumentException();
        }
        int before = nodes.size();
        while (nodes.size() > many) {
            nodes.remove(nodes.size() - 1);
        }
        firsts.removeIf(first -> first >= nodes.size());
        return before - nodes.size();
    }

    int count(int what) {
        switch (what) {
            case 0:
                return tape.length();
            case 1:
                return nodes.size();
            case 2:
                int sum = 0;
                for (Node node : nodes) {
                    sum += node.bytes.length();
                }
                return sum;
            case 3:
                return firsts.size();
            default:
                return -1;
        }
    }
}
