/** The edges that the section "Input text" names, a method for each sentence. */
public final class TextEdgesTest {
    private TextEdgesTest() {
    }

    public static void main(String[] args) {
        atMost160Characters();
        oneStatementOrMore();
        numbersFrom1To16();
        maximalRuns();
        everyCharacterEverywhere();
        spaces();
        firstTokenCounts();
        thirdOccurrence();
        ninthCrossing();
        fifthCircle();
        endInsideStatement();
        noStatement();
        arcsThatOccurOnce();
        earlierTexts();
        Check.finish();
    }

    /** "a text of at most 160 characters" */
    private static void atMost160Characters() {
        String diagram = Texts.EIGHT_KINKS + Texts.circles(4);
        String spaces = " ".repeat(160 - diagram.length());
        Check.dueLoad(diagram + spaces, 8);
        Check.dueLoad(spaces + diagram, 8);
        Check.dueLoad(Texts.EIGHT_KINKS + spaces + Texts.circles(4), 8);
        // The last ";" is the 160th character, or it does not fit any more.
        KnotDiagram d = new KnotDiagram();
        Check.append(d, " ".repeat(159) + "o");
        Check.due("append() to a full text", d.append(';'), Check.FULL);
        Check.due("load() of a text without its last sign", d.load(), -170);
        Check.dueLoad(" ".repeat(158) + "o;", 0);
        Check.dueLoadError(" ".repeat(159) + "x|");
        Check.dueLoadError(" ".repeat(159) + "|?");
        Check.dueLoadError("|?" + " ".repeat(159));
    }

    /** "one or more statements, each of them followed by ';'" */
    private static void oneStatementOrMore() {
        Check.dueLoad("o;", 0);
        Check.dueLoad("x1 1 2 2;", 1);
        Check.dueLoad("o;o;", 0);
        Check.dueLoad("x1 1 2 2;o;x3 3 4 4;o;", 2);
        Check.dueLoadError("o|");
        Check.dueLoadError("o;o|");
        Check.dueLoadError("o|o;");
        Check.dueLoadError("o|x1 1 2 2;");
        Check.dueLoadError("x1 1 2 2|o;");
        Check.dueLoadError("x1 1 2 2|x3 3 4 4;");
        Check.dueLoadError("|;");
        Check.dueLoadError("o;|;");
        Check.dueLoadError("x1 1 2 2;|;");
        // "'x' and the arcs of the ends 0 to 3 of a crossing, or 'o' for a circle"
        Check.dueLoadError("x|;");
        Check.dueLoadError("x1|;");
        Check.dueLoadError("x1 1|;");
        Check.dueLoadError("x1 1 2|;");
        Check.dueLoadError("x1 1 2 2 |3;");
        Check.dueLoadError("o|1;");
        Check.dueLoadError("|1;");
        Check.dueLoadError("o;|1;");
    }

    /** "an arc if it is a number from 1 to 16 without a 0 in front", at each of the four ends */
    private static void numbersFrom1To16() {
        for (int number = 0; number <= 300; number++) {
            boolean isArc = number >= 1 && number <= 16;
            int other = number == 3 ? 4 : 3;
            for (String text : new String[] {"x|# # @ @;", "x@ |# # @;", "x@ @ |# #;"}) {
                String marked = text.replace("#", "" + number).replace("@", "" + other);
                if (isArc) {
                    Check.dueLoad(marked.replace("|", ""), 1);
                } else {
                    Check.dueLoadError(marked);
                }
            }
            if (isArc) {
                Check.dueLoad("x" + number + " " + other + " " + other + " " + number + ";", 1);
            } else {
                // The first end would be refused before the last one; so another arc stands there.
                Check.dueLoadError("x" + other + " 5 6 |" + number + ";");
            }
            Check.dueLoadError("x1 1 2 2 |" + number + ";");
            Check.dueLoadError("o|" + number + ";");
            Check.dueLoadError("|" + number + ";");
        }
        KnotDiagram d = Check.loaded("x1 16 16 1;x9 10 10 9;");
        Check.dueState("arcs of one digit and of two", d, "x 1 16 16 1; x 9 10 10 9; 0 circles");
        for (int number = 0; number <= 16; number++) {
            Check.dueLoadError("x|0" + number + " 1 2 2;");
            Check.dueLoadError("x|00" + number + " 1 2 2;");
            Check.dueLoadError("x1 |0" + number + ";");
        }
        // Numbers that come back into the range by the wrap-around of 8, 16, 32 or 64 bits.
        String[] wrapped = {"257", "65537", "4294967297", "4294967312", "18446744073709551617", "2147483648"};
        for (String number : wrapped) {
            Check.dueLoadError("x|" + number + " " + number + " 2 2;");
            Check.dueLoadError("x1 1 2 |" + number + ";");
        }
        Check.dueLoadError("x|" + "0".repeat(159));
        Check.dueLoadError("x|1" + "0".repeat(158));
    }

    /** "so is a maximal run of digits": it begins at its first digit, and is not split to be allowed */
    private static void maximalRuns() {
        Check.dueLoadError("x|1122;");
        Check.dueLoadError("x|11111;");
        Check.dueLoadError("x1 |122;");
        Check.dueLoadError("x1 1 |22;");
        Check.dueLoadError("x1 1 |2222222;");
        Check.dueLoadError("x1 1 2 |22;");
        Check.dueLoadError("x1 1 2 |23;");
        Check.dueLoadError("x1 1 2 2 |22");
        Check.dueLoad("x11 1 11 1;", 1);
    }

    /** "any other character except a space is a token of its own that is never allowed" */
    private static void everyCharacterEverywhere() {
        dueNext("", "xo");
        dueNext("o;", "xo");
        dueNext("x1 1 2 2;", "xo");
        dueNext("o", ";");
        dueNext("o ", ";");
        dueNext("x", "123456789");
        dueNext("x ", "123456789");
        dueNext("x1 ", "123456789");
        dueNext("x1 1 ", "23456789");
        dueNext("x1 1 2 ", "23456789");
        dueNext("x1 1 2 2 ", ";");
        // Behind a digit another one makes the number longer, which begins where it began.
        for (int character = 0; character <= 255; character++) {
            String text = "x5 5 1" + (char) character;
            boolean longer = character >= '0' && character <= '9';
            boolean allowed = character == ' ' || longer && character <= '6';
            Check.dueLoad(text, allowed ? -17 : longer ? -15 : -16);
        }
    }

    /** Of all characters, just a space and these are allowed behind a beginning. */
    private static void dueNext(String begin, String allowed) {
        for (int character = 0; character <= 255; character++) {
            String text = begin + (char) character;
            if (character == ' ' && begin.endsWith(";")) {
                Check.dueLoad(text, begin.startsWith("x") ? 1 : 0);
            } else if (character == ' ') {
                Check.dueLoad(text, -10 - text.length());
            } else if (allowed.indexOf(character) < 0) {
                Check.dueLoad(text, -10 - begin.length());
            } else if (character == ';') {
                Check.dueLoad(text, begin.startsWith("x") ? 1 : 0);
            } else {
                Check.dueLoad(text, -10 - text.length());
            }
        }
    }

    /** "Spaces .. may stand before, between and after tokens; they are needed only between two numbers." */
    private static void spaces() {
        String[] tokens = {"x", "1", "12", "1", "12", ";", "o", ";"};
        String want = "x 1 12 1 12; 1 circles";
        for (int spaces = 0; spaces < 1 << tokens.length + 1; spaces++) {
            StringBuilder text = new StringBuilder();
            for (int k = 0; k <= tokens.length; k++) {
                boolean needed = k >= 2 && k <= 4;
                text.append((spaces >> k & 1) != 0 ? needed ? "   " : "  " : needed ? " " : "");
                text.append(k < tokens.length ? tokens[k] : "");
            }
            Check.dueState("load() of \"" + text + "\"", Check.loaded(text.toString()), want);
        }
        // Inside a number a space makes two of them.
        Check.dueLoadError("x1 |0 1 10;");
        Check.dueLoadError("x1 2 1 2 |2;");
        // Only the code 32 is a space.
        for (int character : new int[] {0, 9, 10, 11, 12, 13, 31, 33, 127, 133, 160, 255}) {
            Check.dueLoadError("|" + (char) character + "o;");
            Check.dueLoadError("o;|" + (char) character);
            Check.dueLoadError("x1|" + (char) character + "1 2 2;");
        }
    }

    /** "the first character of the first token that is not allowed where it stands" */
    private static void firstTokenCounts() {
        Check.dueLoadError("x1 1 2|;y;17;");
        Check.dueLoadError("|;;;;");
        Check.dueLoadError("   |y");
        Check.dueLoadError("x1 1 2 |170 x");
        Check.dueLoadError("x1 1 |1 1;");
        Check.dueLoadError("o;|?o;o;o;o;");
        Check.dueLoadError("x1 2 3 4|x");
        Check.dueLoadError("x5 6 7 8; |17");
        Check.dueLoadError("x|17 17 17 17");
        // A token comes before what is wrong with the text as a whole.
        Check.dueLoadError("x1 2 3 |?");
        Check.dueLoadError("x1 2 3 4;|?");
        Check.dueLoadError("|?");
    }

    /** "a third occurrence of an arc": in the same crossing or in a later one, not the second one */
    private static void thirdOccurrence() {
        for (int arc = 1; arc <= 16; arc++) {
            dueThird("x# # |# a;", arc);
            dueThird("x# a # |#;", arc);
            dueThird("xa # # |#;", arc);
            dueThird("x# # a a;x|# b b c;", arc);
            dueThird("x# a a #;o;xb c b |#;", arc);
            dueThird("x# a b c;xb a # c;x|#", arc);
        }
        // Arcs with the same first or last digit are not the same.
        Check.dueLoad("x1 11 1 11;x16 6 6 16;x10 12 12 10;", 3);
        // Where all sixteen arcs are there twice, none is left.
        Check.dueLoadError(Texts.kinks(7) + "x15 15 16 |15;");
        Check.dueLoadError(Texts.kinks(7) + "x15 15 16 |1;");
    }

    /** The arc stands for #, and three others for a, b and c. */
    private static void dueThird(String marked, int arc) {
        String text = marked.replace("#", "" + arc);
        int other = arc;
        for (String letter : new String[] {"a", "b", "c"}) {
            other = other % 16 + 1;
            text = text.replace(letter, "" + other);
        }
        Check.dueLoadError(text);
    }

    /** "the 'x' of a ninth crossing": the error is there, whatever follows, and the eighth is allowed */
    private static void ninthCrossing() {
        Check.dueLoad(Texts.kinks(8), 8);
        Check.dueLoad(Texts.virtuals(8), 8);
        Check.dueLoadError(Texts.kinks(8) + "|x");
        Check.dueLoadError(Texts.kinks(8) + "|x1 1 2 2;");
        Check.dueLoadError(Texts.kinks(8) + "o;  |x17");
        Check.dueLoadError("o;" + Texts.kinks(8) + "o;o;o;|x;");
        Check.dueLoadError(Texts.kinks(7) + "x|;");
        // A ninth "x" inside the eighth statement is not allowed there anyhow.
        Check.dueLoadError(Texts.kinks(7) + "x15 15 16|x");
    }

    /** "the 'o' of a fifth circle": the error is there, whatever follows, and the fourth is allowed */
    private static void fifthCircle() {
        Check.dueLoad("o;o;o;o;", 0);
        Check.dueLoad("o;o;x1 1 2 2;o;o;", 1);
        Check.dueLoadError("o;o;o;o;|o;");
        Check.dueLoadError("o;o;o;o;|o");
        Check.dueLoadError("o;o;o;o;  |o?");
        Check.dueLoadError("o;o;x1 1 2 2;o;o;x3 3 4 4;|o;");
        Check.dueLoadError("o;o;o;o|");
        Check.dueLoadError(Texts.kinks(8) + "o;o;o;o;|o;");
        // What a diagram before had does not count.
        KnotDiagram d = Check.loaded(Texts.kinks(8) + "o;o;o;o;");
        Check.due("load() once more", Check.load(d, Texts.kinks(8) + "o;o;o;o;"), 8);
        Check.due("load() of too many", Check.load(d, "o;o;o;o;o;"), -18);
        Check.due("load() after too many", Check.load(d, "o;o;o;o;"), 0);
    }

    /** "the text ends inside a statement": the error position is the length, with the spaces at the end */
    private static void endInsideStatement() {
        String[] begun = {"x", "x1", "x1 1", "x1 1 2", "x1 1 2 2", "o", "o;x", "o;o", "x1 1 2 2;x3 3", "x1 1 2 2;o"};
        for (String text : begun) {
            for (int spaces = 0; spaces < 4; spaces++) {
                Check.dueLoadError(text + " ".repeat(spaces) + "|");
                Check.dueLoadError(" ".repeat(spaces) + text + "|");
            }
            Check.dueLoadError(text + " ".repeat(160 - text.length()) + "|");
        }
    }

    /** "has no statement": an empty text, or just spaces */
    private static void noStatement() {
        for (int length = 0; length <= 160; length++) {
            Check.dueLoadError(" ".repeat(length) + "|");
        }
    }

    /** "has an arc that occurs only once": the first and the last of the arcs, two of them and all */
    private static void arcsThatOccurOnce() {
        Check.dueLoadError("x1 2 3 4;|");
        Check.dueLoadError("x1 2 2 3;|");
        Check.dueLoadError("x1 2 3 3;|");
        Check.dueLoadError("x1 1 2 3;|");
        Check.dueLoadError("x2 1 1 3;|");
        Check.dueLoadError("x1 2 1 3;|");
        Check.dueLoadError("x2 1 3 1;|");
        Check.dueLoadError("x1 2 3 4;  |");
        Check.dueLoadError("o;x1 2 3 3;o;|");
        Check.dueLoadError("x1 2 3 4;x5 6 7 8;|");
        Check.dueLoadError("x1 2 3 4;x1 2 3 5;|");
        Check.dueLoadError("x1 2 3 3;x4 4 5 5;x6 6 7 7;|");
        Check.dueLoadError(Texts.kinks(6) + "x13 14 15 16;|");
        Check.dueLoadError(Texts.kinks(6) + "x14 13 13 16;|");
    }

    /** "which append() builds one character at a time": what stood behind the end in an earlier text is gone */
    private static void earlierTexts() {
        String[] begun = {"", " ", "o", "o;", "o;x", "x1", "x1 ", "x1 1", "x1 1 2", "x1 1 2 2", "x1 1 2 2;"};
        for (String earlier : new String[] {"9", "0", ";", "?", " ", "x", "o"}) {
            for (String text : begun) {
                KnotDiagram d = new KnotDiagram();
                Check.append(d, earlier.repeat(30));
                d.clearText();
                Check.append(d, text);
                KnotDiagram fresh = new KnotDiagram();
                Check.append(fresh, text);
                String what = "\"" + text + "\" after \"" + earlier + "\"";
                Check.due("load() of " + what, d.load(), fresh.load());
                Check.dueText("load() of " + what, Check.everything(d), Check.everything(fresh));
            }
        }
        // The same behind a text that load() emptied.
        KnotDiagram d = Check.loaded("x 9 9 1 1;");
        Check.append(d, "x1");
        Check.due("load() of \"x1\" after load()", d.load(), -12);
        Check.due("append() after load()", Check.append(d, " 1"), 4);
        Check.due("load() of \"x1 1\" after load()", d.load(), -14);
    }
}
