/** The document's terms: what bytes are, and what strings, names, numbers and references are made of. */
public final class TokensTest {
    private static final int INTEGER = 2;
    private static final int REAL = 3;
    private static final int STRING = 4;
    private static final int NAME = 5;
    private static final int REFERENCE = 8;
    private static final String WHITE = "\0\t\n\f\r ";
    private static final String DELIMITERS = "()<>[]{}/%";
    private static final String HEX = "0123456789ABCDEFabcdef";
    private static final Bench bench = new Bench();

    public static void main(String[] args) {
        bench.sentence("WHITE are 0, 9, 10, 12, 13, 32", TokensTest::whiteBytes);
        bench.sentence("DELIMITERS ( ) < > [ ] { } / and the percent sign; all other bytes are REGULAR",
                TokensTest::regularBytes);
        bench.sentence("A COMMENT goes up to the next 10 or 13", TokensTest::commentsUpToALine);
        bench.sentence("A COMMENT goes up to the end", TokensTest::commentsUpToTheEnd);
        bench.sentence("what is WHITE and COMMENTS are passed over", TokensTest::blanks);
        bench.sentence("a < that is not <<", TokensTest::oneOrTwo);
        bench.sentence("a WORD: the longest row of REGULAR bytes", TokensTest::words);
        bench.sentence("All else is a BAD token, one byte", TokensTest::badTokens);
        bench.sentence("( and ) in it stand in pairs", TokensTest::pairs);
        bench.sentence("A \\ and what follows", TokensTest::escapes);
        bench.sentence("one to three octal digits, as many as there are, modulo 256", TokensTest::octals);
        bench.sentence("\\ and a line's end (13 10, 13, or 10): nothing", TokensTest::escapedLines);
        bench.sentence("A line's end without \\ is 10", TokensTest::plainLines);
        bench.sentence("All else stands for itself", TokensTest::plainBytes);
        bench.sentence("From < on: pairs of hexadecimal digits up to >", TokensTest::hexDigits);
        bench.sentence("WHITE between passed over", TokensTest::hexWhite);
        bench.sentence("a last digit alone has a 0 behind it", TokensTest::hexAlone);
        bench.sentence("A NAME is the longest row of REGULAR bytes behind the /", TokensTest::nameRows);
        bench.sentence("a # with two hexadecimal digits behind it stands for that byte", TokensTest::nameSigns);
        bench.sentence("other # for themselves", TokensTest::otherSigns);
        bench.sentence("NUMBER: a + or - (or none), a point before, between or behind them (or none)",
                TokensTest::numberForms);
        bench.sentence("NUMBER: one digit at least", TokensTest::noNumbers);
        bench.sentence("INTEGER if it is -2,147,483,647 .. 2,147,483,647", TokensTest::integers);
        bench.sentence("Otherwise it is a REAL", TokensTest::integersBeyond);
        bench.sentence("of the digits behind the point the first nine count", TokensTest::nineDigits);
        bench.sentence("halves are rounded away from 0", TokensTest::rounding);
        bench.sentence("what is beyond 2,147,483,647 65,536ths is that", TokensTest::realsBeyond);
        bench.sentence("a REFERENCE's WORDS one behind the other", TokensTest::referenceWords);
        bench.sentence("a REFERENCE's number is 0 .. 8,388,607", TokensTest::referenceNumbers);
        bench.sentence("a REFERENCE's generation is 0 .. 65,535", TokensTest::referenceGenerations);
        bench.sentence("a REFERENCE's first two are of digits alone", TokensTest::referenceDigits);
        bench.end();
    }

    private static boolean in(String some, int b) {
        return some.indexOf(b) >= 0;
    }

    private static boolean regular(int b) {
        return !in(WHITE, b) && !in(DELIMITERS, b);
    }

    private static void whiteBytes() {
        for (int b = 0; b < 256; b++) {
            String text = (char) b + "true";
            if (in(WHITE, b)) {
                bench.reads(text, 1, 1, 5);
            } else if (b == '/') {
                bench.reads(text, NAME, 4, 5);
            } else if (in("(<[%", b)) {
                bench.fault(text, SheetObjects.ENDED, 5);
            } else {
                bench.fault(text, SheetObjects.TOKEN, 0);
            }
        }
    }

    private static void regularBytes() {
        for (int b = 0; b < 256; b++) {
            String name = "/a" + (char) b + "b";
            bench.reads(name, NAME, regular(b) ? 3 : 1, regular(b) ? 4 : 2);
            String word = "true" + (char) b;
            if (regular(b)) {
                bench.fault(word, SheetObjects.TOKEN, 0);
            } else {
                bench.reads(word, 1, 1, 4);
            }
        }
    }

    private static void commentsUpToALine() {
        for (int b = 0; b < 256; b++) {
            String text = "%" + (char) b + "true\n7";
            if (b == 10 || b == 13) {
                bench.reads(text, 1, 1, 6);
            } else {
                bench.reads(text, INTEGER, 7, 8);
            }
        }
        bench.reads("%\r7", INTEGER, 7, 3);
        bench.reads("%%(\n7", INTEGER, 7, 5);
        bench.reads("7%8", INTEGER, 7, 1);
    }

    private static void commentsUpToTheEnd() {
        bench.fault("%", SheetObjects.ENDED, 1);
        bench.fault("%true", SheetObjects.ENDED, 5);
        bench.fault("[1 % ]", SheetObjects.ENDED, 6);
        bench.fault("%\n%\r%", SheetObjects.ENDED, 5);
    }

    private static void blanks() {
        bench.reads("\0\t\n\f\r true ", 1, 1, 10);
        bench.reads("%%\n%\r\n%b%c\n 1%", INTEGER, 1, 13);
        bench.reads("[%]\n ]", 6, 0, 6);
        bench.reads("<<\0%>>\r>>", 7, 0, 9);
        Used x = Scene.read("[1%\n%\r2\0\0 3]").now();
        bench.due("between objects", x.value(0), 3);
        bench.readsBytes("(% a\n)", STRING, "% a\n");
    }

    private static void oneOrTwo() {
        bench.reads("<<>>", 7, 0, 4);
        bench.reads("<< >>>>", 7, 0, 5);
        bench.readsBytes("<>", STRING, "");
        bench.readsBytes("<41>>", STRING, "A", 4);
        bench.fault("< <>>", SheetObjects.STRING, 0);
        bench.fault("<<> >", SheetObjects.KEY, 2);
        bench.fault("<", SheetObjects.ENDED, 1);
        bench.fault("<<", SheetObjects.ENDED, 2);
        Used x = Scene.read("<</A<41>>>").now();
        bench.due("<41> and >>", x.text(0), "<< /A <41> >>");
        Used y = Scene.read("<</A<<>>>>").now();
        bench.due("<< behind a name", y.text(0), "<< /A << >> >>");
    }

    private static void words() {
        bench.reads("null", 0, 0, 4);
        bench.reads("true", 1, 1, 4);
        bench.reads("false", 1, 0, 5);
        bench.reads("12345", INTEGER, 12345, 5);
        bench.fault("Null", SheetObjects.TOKEN, 0);
        bench.fault("nul", SheetObjects.TOKEN, 0);
        bench.fault("nulll", SheetObjects.TOKEN, 0);
        bench.fault("TRUE", SheetObjects.TOKEN, 0);
        bench.fault("tru", SheetObjects.TOKEN, 0);
        bench.fault(" true1", SheetObjects.TOKEN, 1);
        bench.fault("truefalse", SheetObjects.TOKEN, 0);
        bench.fault("fals", SheetObjects.TOKEN, 0);
        bench.fault("false\u00FF", SheetObjects.TOKEN, 0);
        Used x = Scene.read("[true/A 1[]false(a)2<b>null<<>>3]").now();
        bench.due("words end at others", x.text(0), "[ true /A 1 [ ] false <61> 2 <B0> null << >> 3 ]");
    }

    private static void badTokens() {
        for (String bad : new String[] {")", "{", "}", ">"}) {
            bench.fault(bad, SheetObjects.TOKEN, 0);
            bench.fault("[1 " + bad + "2]", SheetObjects.TOKEN, 3);
            bench.fault("<</A 1 " + bad + " 2>>", SheetObjects.KEY, 7);
        }
        bench.fault("> >", SheetObjects.TOKEN, 0);
    }

    private static void pairs() {
        bench.readsBytes("()", STRING, "");
        bench.readsBytes("((a)(()))", STRING, "(a)(())");
        bench.readsBytes("(a))", STRING, "a", 3);
        bench.readsBytes("(\\()", STRING, "(");
        bench.readsBytes("(\\))", STRING, ")");
        bench.readsBytes("(\\\\)", STRING, "\\");
        bench.readsBytes("(\\050\\051)", STRING, "()");
        bench.readsBytes("(" + "(".repeat(200) + ")".repeat(200) + ")", STRING,
                "(".repeat(200) + ")".repeat(200));
        bench.fault("(()", SheetObjects.ENDED, 3);
        bench.fault("(\\)", SheetObjects.ENDED, 3);
        bench.fault("(" + "(".repeat(200) + ")".repeat(200), SheetObjects.ENDED, 401);
    }

    private static void escapes() {
        for (int b = 0; b < 256; b++) {
            int which = "nrtbf".indexOf(b);
            String want = String.valueOf((char) b);
            if (which >= 0) {
                want = String.valueOf("\n\r\t\b\f".charAt(which));
            } else if (b >= '0' && b <= '7') {
                want = String.valueOf((char) (b - '0'));
            } else if (b == 10 || b == 13) {
                want = "";
            }
            bench.readsBytes("(\\" + (char) b + ")", STRING, want);
            bench.readsBytes("(a\\" + (char) b + "z)", STRING, "a" + want + "z");
        }
        bench.fault("(\\", SheetObjects.ENDED, 2);
    }

    private static void octals() {
        bench.readsBytes("(\\1)", STRING, "\1");
        bench.readsBytes("(\\12)", STRING, "\12");
        bench.readsBytes("(\\123)", STRING, "\123");
        bench.readsBytes("(\\1234)", STRING, "\1234");
        bench.readsBytes("(\\18\\128\\1238)", STRING, "\0018\0128\1238");
        bench.readsBytes("(\\1\\2)", STRING, "\1\2");
        bench.readsBytes("(\\12(\\3))", STRING, "\12(\3)");
        bench.readsBytes("(\\0\\00\\000\\0000)", STRING, "\0\0\0\0000");
        bench.readsBytes("(\\377)", STRING, "\u00FF");
        bench.readsBytes("(\\400)", STRING, "\0");
        bench.readsBytes("(\\401)", STRING, "\1");
        bench.readsBytes("(\\777)", STRING, "\u00FF");
        bench.readsBytes("(\\8\\9\\/)", STRING, "89/");
        bench.fault("(\\1", SheetObjects.ENDED, 3);
        bench.fault("(\\12", SheetObjects.ENDED, 4);
    }

    private static void escapedLines() {
        bench.readsBytes("(a\\\nb)", STRING, "ab");
        bench.readsBytes("(a\\\rb)", STRING, "ab");
        bench.readsBytes("(a\\\r\nb)", STRING, "ab");
        bench.readsBytes("(a\\\n\rb)", STRING, "a\nb");
        bench.readsBytes("(a\\\n\nb)", STRING, "a\nb");
        bench.readsBytes("(a\\\r\rb)", STRING, "a\nb");
        bench.readsBytes("(a\\\r\n\nb)", STRING, "a\nb");
        bench.readsBytes("(a\\\r\\\nb)", STRING, "ab");
        bench.fault("(a\\\r", SheetObjects.ENDED, 4);
        bench.fault("(a\\\r\n", SheetObjects.ENDED, 5);
    }

    private static void plainLines() {
        bench.readsBytes("(\n)", STRING, "\n");
        bench.readsBytes("(\r)", STRING, "\n");
        bench.readsBytes("(\r\n)", STRING, "\n");
        bench.readsBytes("(\n\r)", STRING, "\n\n");
        bench.readsBytes("(\r\r\n\n)", STRING, "\n\n\n");
        bench.readsBytes("(a\nb\rc\r\nd)", STRING, "a\nb\nc\nd");
        bench.fault("(a\r", SheetObjects.ENDED, 3);
        bench.fault("(a\r\n", SheetObjects.ENDED, 4);
    }

    private static void plainBytes() {
        for (int b = 0; b < 256; b++) {
            String text = "(" + (char) b + ")";
            if (b == '(' || b == '\\') {
                bench.fault(text, SheetObjects.ENDED, 3);
            } else if (b == ')') {
                bench.readsBytes(text, STRING, "", 2);
            } else {
                bench.readsBytes(text, STRING, b == 13 ? "\n" : String.valueOf((char) b));
            }
        }
    }

    private static void hexDigits() {
        for (int b = 0; b < 256; b++) {
            String text = "<4" + (char) b + ">";
            if (in(HEX, b)) {
                bench.readsBytes(text, STRING, String.valueOf((char) (64 + Character.digit(b, 16))));
            } else if (b == '>') {
                bench.readsBytes(text, STRING, "@", 3);
            } else if (!in(WHITE, b)) {
                bench.fault(text, SheetObjects.STRING, 0);
            }
        }
        bench.readsBytes("<>", STRING, "");
        bench.readsBytes("<00>", STRING, "\0");
        bench.readsBytes("<fFFf>", STRING, "\u00FF\u00FF");
        bench.readsBytes("<414a4B>", STRING, "AJK");
    }

    private static void hexWhite() {
        for (char c : WHITE.toCharArray()) {
            bench.readsBytes("<" + c + ">", STRING, "");
            bench.readsBytes("<" + c + "4" + c + c + "1" + c + "42" + c + ">", STRING, "AB");
        }
        bench.fault("<4%\n1>", SheetObjects.STRING, 0);
    }

    private static void hexAlone() {
        for (char c : HEX.toCharArray()) {
            bench.readsBytes("<" + c + ">", STRING, String.valueOf((char) (Character.digit(c, 16) * 16)));
        }
        bench.readsBytes("<414>", STRING, "A@");
        bench.readsBytes("<41 4 >", STRING, "A@");
        bench.readsBytes("<4 14\n1>", STRING, "AA");
    }

    private static void nameRows() {
        bench.readsBytes("/", NAME, "");
        bench.readsBytes("//", NAME, "", 1);
        bench.readsBytes("/ a", NAME, "", 1);
        bench.readsBytes("/a/b", NAME, "a", 2);
        bench.readsBytes("/A-b.1", NAME, "A-b.1");
        bench.readsBytes("/null", NAME, "null");
        bench.readsBytes("/\\n\\051", NAME, "\\n\\051");
        bench.readsBytes("/\u0080\u00FF\u0001", NAME, "\u0080\u00FF\u0001");
    }

    private static void nameSigns() {
        for (int b = 1; b < 256; b++) {
            String want = "a" + (char) b + "z";
            bench.readsBytes(String.format("/a#%02xz", b), NAME, want);
            bench.readsBytes(String.format("/a#%02Xz", b), NAME, want);
        }
        bench.readsBytes("/#41", NAME, "A");
        bench.readsBytes("/#414", NAME, "A4");
        bench.readsBytes("/#2341", NAME, "#41");
        bench.readsBytes("/##41", NAME, "#A");
        bench.readsBytes("/#41#42", NAME, "AB");
    }

    private static void otherSigns() {
        for (int b = 0; b < 256; b++) {
            if (!in(HEX, b)) {
                String row = regular(b) ? String.valueOf((char) b) : "";
                bench.readsBytes("/#4" + (char) b, NAME, "#4" + row, 3 + row.length());
                bench.readsBytes("/#" + (char) b + "4", NAME, "#" + row + (row.isEmpty() ? "" : "4"),
                        2 + 2 * row.length());
            }
        }
        bench.readsBytes("/#", NAME, "#");
        bench.readsBytes("/#4", NAME, "#4");
        bench.readsBytes("/a##", NAME, "a##");
    }

    private static void numberForms() {
        bench.reads("0", INTEGER, 0, 1);
        bench.reads("9", INTEGER, 9, 1);
        bench.reads("+0", INTEGER, 0, 2);
        bench.reads("-0", INTEGER, 0, 2);
        bench.reads("+17", INTEGER, 17, 3);
        bench.reads("-17", INTEGER, -17, 3);
        bench.reads("1.", REAL, 65536, 2);
        bench.reads("+1.", REAL, 65536, 3);
        bench.reads("-1.", REAL, -65536, 3);
        bench.reads(".5", REAL, 32768, 2);
        bench.reads("+.5", REAL, 32768, 3);
        bench.reads("-.5", REAL, -32768, 3);
        bench.reads("0.5", REAL, 32768, 3);
        bench.reads("3.25", REAL, 212992, 4);
        bench.reads("-3.25", REAL, -212992, 5);
        bench.reads("-0.0", REAL, 0, 4);
        bench.reads("10.10", REAL, 661914, 5);
    }

    private static void noNumbers() {
        String[] texts = {"-", "+", ".", "-.", "+.", "..", "1..", "..1", "1.2.3", "1..2", "--1", "++1",
            "+-1", "-+1", "1-", "1+", "1-1", ".-1", "-.-1", "1e5", "0x1", "1,5", "1:", "1;"};
        for (String text : texts) {
            bench.fault(text, SheetObjects.TOKEN, 0);
        }
        bench.reads("+.0", REAL, 0, 3);
    }

    private static void integers() {
        bench.reads("2147483646", INTEGER, 2147483646, 10);
        bench.reads("2147483647", INTEGER, 2147483647, 10);
        bench.reads("+2147483647", INTEGER, 2147483647, 11);
        bench.reads("-2147483646", INTEGER, -2147483646, 11);
        bench.reads("-2147483647", INTEGER, -2147483647, 11);
        bench.reads("0".repeat(300) + "2147483647", INTEGER, 2147483647, 310);
        bench.reads("-" + "0".repeat(300) + "2147483647", INTEGER, -2147483647, 311);
    }

    private static void integersBeyond() {
        String[] texts = {"2147483648", "4294967295", "4294967296", "9223372036854775807",
            "9223372036854775808", "18446744073709551616", "18446744073709551621", "9".repeat(400),
            "1" + "0".repeat(400)};
        for (String text : texts) {
            bench.reads(text, REAL, 2147483647, text.length());
            bench.reads("+" + text, REAL, 2147483647, text.length() + 1);
            bench.reads("-" + text, REAL, -2147483647, text.length() + 1);
        }
    }

    /** A number below 1 with nine digits behind the point, these many billionths. */
    private static String billionths(long many) {
        return String.format("0.%09d", many);
    }

    /** The fewest billionths that are nearer to the next 65,536th; with nine digits none is a half. */
    private static long beyondHalf(int parts) {
        return Math.floorDiv((2L * parts + 1) * 1000000000L, 131072L) + 1;
    }

    private static void nineDigits() {
        // The ninth digit makes it two 65,536ths, the tenth would.
        bench.reads("0.00002288", REAL, 1, 10);
        bench.reads("0.000022888", REAL, 1, 11);
        bench.reads("0.000022889", REAL, 2, 11);
        bench.reads("-0.000022889", REAL, -2, 12);
        bench.reads("0.0000228889", REAL, 1, 12);
        bench.reads("-0.0000228889", REAL, -1, 13);
        bench.reads("0.000022888" + "9".repeat(300), REAL, 1, 311);
        bench.reads("5.000022888" + "9".repeat(300), REAL, 327681, 311);
        bench.reads("0.000000000" + "9".repeat(300), REAL, 0, 311);
        bench.reads("1.5" + "0".repeat(300), REAL, 98304, 303);
        for (int parts : new int[] {0, 1, 2, 100, 32767, 32768, 65534, 65535}) {
            bench.reads(billionths(beyondHalf(parts) - 1) + "9", REAL, parts, 12);
        }
    }

    private static void rounding() {
        for (int parts : new int[] {0, 1, 2, 3, 100, 32767, 32768, 65534, 65535}) {
            long beyond = beyondHalf(parts);
            bench.reads(billionths(beyond), REAL, parts + 1, 11);
            bench.reads("-" + billionths(beyond), REAL, -parts - 1, 12);
            bench.reads(billionths(beyond - 1), REAL, parts, 11);
            bench.reads("-" + billionths(beyond - 1), REAL, -parts, 12);
        }
        bench.reads("0.001953125", REAL, 128, 11);
        bench.reads("1.99999999999", REAL, 131072, 13);
    }

    private static void realsBeyond() {
        bench.reads("32767.", REAL, 2147418112, 6);
        bench.reads("32767.999977111", REAL, 2147483646, 15);
        bench.reads("32767.999977112", REAL, 2147483647, 15);
        bench.reads("-32767.999977111", REAL, -2147483646, 16);
        bench.reads("-32767.999977112", REAL, -2147483647, 16);
        bench.reads("32767.999992370", REAL, 2147483647, 15);
        String[] texts = {"32767.999992371", "32767.999999999", "32768.", "32768.0", "65536.0", "65535.5",
            "131072.", "2147483647.", "4294967296.25", "281474976710656.0", "9".repeat(400) + ".9"};
        for (String text : texts) {
            bench.reads(text, REAL, 2147483647, text.length());
            bench.reads("-" + text, REAL, -2147483647, text.length() + 1);
        }
    }

    private static void referenceWords() {
        bench.reads("1 0 R", REFERENCE, 1, 5);
        bench.reads("7%x\n5%y\rR]", REFERENCE, 7, 9);
        bench.reads("7\0005\0R/", REFERENCE, 7, 5);
        bench.reads("1 0", INTEGER, 1, 1);
        bench.reads("1 R", INTEGER, 1, 1);
        bench.reads("1", INTEGER, 1, 1);
        bench.reads("1 0 r", INTEGER, 1, 1);
        bench.reads("1 0 RR", INTEGER, 1, 1);
        bench.reads("1 0R", INTEGER, 1, 1);
        bench.reads("1 0 /R", INTEGER, 1, 1);
        bench.reads("1 0 (R)", INTEGER, 1, 1);
        bench.reads("1 0 %R", INTEGER, 1, 1);
        bench.reads("1 /0 R", INTEGER, 1, 1);
        bench.reads("1 [0 R", INTEGER, 1, 1);
        Used x = Scene.read("[1 2 0 R 3 4 5 R 6]").now();
        bench.due("integers before them", x.text(0), "[ 1 2 0 R 3 4 5 R 6 ]");
        bench.due("five objects", x.value(0), 5);
        bench.due("the second", x.kind(2), REFERENCE);
        bench.due("the fourth", x.kind(4), REFERENCE);
    }

    private static void referenceNumbers() {
        bench.reads("0 0 R", REFERENCE, 0, 5);
        bench.reads("8388606 0 R", REFERENCE, 8388606, 11);
        bench.reads("8388607 0 R", REFERENCE, 8388607, 11);
        bench.reads("0".repeat(300) + "8388607 0 R", REFERENCE, 8388607, 311);
        bench.reads("8388608 0 R", INTEGER, 8388608, 7);
        bench.reads("4294967296 0 R", REAL, 2147483647, 10);
        bench.reads("18446744073709551617 0 R", REAL, 2147483647, 20);
        bench.fault("[8388608 0 R]", SheetObjects.TOKEN, 11);
    }

    private static void referenceGenerations() {
        for (int generation : new int[] {0, 1, 65534, 65535}) {
            Used x = Scene.read("1 " + generation + " R").now();
            bench.due("kind", x.kind(0), REFERENCE);
            bench.due("generation", x.child(0, 0, false), generation);
        }
        bench.reads("1 " + "0".repeat(300) + "65535 R", REFERENCE, 1, 309);
        bench.reads("1 65536 R", INTEGER, 1, 1);
        bench.reads("1 4294967296 R", INTEGER, 1, 1);
        bench.reads("1 18446744073709551616 R", INTEGER, 1, 1);
        bench.fault("[1 65536 R]", SheetObjects.TOKEN, 9);
    }

    private static void referenceDigits() {
        bench.reads("+1 0 R", INTEGER, 1, 2);
        bench.reads("-1 0 R", INTEGER, -1, 2);
        bench.reads("-0 0 R", INTEGER, 0, 2);
        bench.reads("1. 0 R", REAL, 65536, 2);
        bench.reads("1 +0 R", INTEGER, 1, 1);
        bench.reads("1 -0 R", INTEGER, 1, 1);
        bench.reads("1 0. R", INTEGER, 1, 1);
        bench.reads("1 0a R", INTEGER, 1, 1);
        bench.fault("1a 0 R", SheetObjects.TOKEN, 0);
    }
}
