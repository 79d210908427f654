/** Promises 2 to 4: append, clearText and load. */
public final class TextTest {
    private TextTest() {
    }

    public static void main(String[] args) {
        appends();
        clears();
        loadsDiagrams();
        refusesTokens();
        refusesUnfinishedTexts();
        keepsRefusedText();
        Check.finish();
    }

    private static void appends() {
        KnotDiagram d = new KnotDiagram();
        Check.due("append(-1)", d.append(-1), Check.BAD);
        Check.due("append(256)", d.append(256), Check.BAD);
        Check.due("append(least int)", d.append(Integer.MIN_VALUE), Check.BAD);
        Check.due("append(greatest int)", d.append(Integer.MAX_VALUE), Check.BAD);
        Check.due("append(0)", d.append(0), 1);
        Check.due("append(255)", d.append(255), 2);
        for (int length = 3; length <= 160; length++) {
            Check.due("append(32)", d.append(32), length);
        }
        Check.due("append(32) to a full text", d.append(32), Check.FULL);
        Check.due("append(256) to a full text", d.append(256), Check.BAD);
        Check.due("append(-1) to a full text", d.append(-1), Check.BAD);
        Check.due("clearText() of a full text", d.clearText(), 160);
        Check.due("append(59)", d.append(59), 1);
    }

    private static void clears() {
        KnotDiagram d = new KnotDiagram();
        Check.due("clearText() of no text", d.clearText(), 0);
        Check.append(d, "x1 1 2 2");
        Check.due("clearText()", d.clearText(), 8);
        Check.due("clearText() again", d.clearText(), 0);
        Check.append(d, "o;");
        Check.due("load() after clearText()", d.load(), 0);
        Check.dueState("clearText() and a new text", d, "1 circles");
    }

    private static void loadsDiagrams() {
        Check.dueLoad("o;", 0);
        Check.dueLoad("o;o;o;o;", 0);
        Check.dueLoad("x1 1 2 2;", 1);
        Check.dueLoad("x16 16 9 9;", 1);
        Check.dueLoad("x10 1 10 1;", 1);
        Check.dueLoad("  x 1  1 2 2  ; o ;  ", 1);
        Check.dueLoad("o;o;x1 1 2 2;o;o;", 1);
        Check.dueLoad(Texts.EIGHT_KINKS, 8);
        Check.dueLoad(Texts.EIGHT_KINKS + "o;o;o;o;", 8);
        Check.dueLoad(Texts.EIGHT_KINKS + " ".repeat(160 - Texts.EIGHT_KINKS.length()), 8);
        KnotDiagram d = Check.loaded("x16 3 3 7;o;x7 12 16 12;");
        Check.dueState("load()", d, "x 16 3 3 7; x 7 12 16 12; 1 circles");
        Check.due("undoDepth()", d.undoDepth(), 1);
        Check.due("load() of a diagram in place of another", Check.load(d, "o;o;o;"), 0);
        Check.dueState("load()", d, "3 circles");
        Check.due("undo()", d.undo(), 1);
        Check.dueState("undo()", d, "x 16 3 3 7; x 7 12 16 12; 1 circles");
        Check.due("undo()", d.undo(), 0);
        Check.dueState("undo()", d, "1 circles");
    }

    private static void refusesTokens() {
        Check.dueLoadError("|;");
        Check.dueLoadError("|1");
        Check.dueLoadError(" |12 x");
        Check.dueLoadError("|y");
        Check.dueLoadError("|X1 1 2 2;");
        Check.dueLoadError("|O;");
        Check.dueLoadError("|\t");
        Check.dueLoadError("|\u0000");
        Check.dueLoadError("|\u00a0");
        Check.dueLoadError("|-");
        Check.dueLoadError("x|x");
        Check.dueLoadError("x|;");
        Check.dueLoadError("x |o");
        Check.dueLoadError("o|o");
        Check.dueLoadError("o |x");
        Check.dueLoadError("o|1;");
        Check.dueLoadError("o;|;");
        Check.dueLoadError("o;|3");
        Check.dueLoadError("x1 1 2|;");
        Check.dueLoadError("x1 1 2|x");
        Check.dueLoadError("x1 1 2 2|x");
        Check.dueLoadError("x1 1 2 2|o");
        Check.dueLoadError("x1 1 2 2 |3;");
        Check.dueLoadError("x1 1 2 2 |17;");
        Check.dueLoadError("x1 1 2 2|:");
        Check.dueLoadError("x1 1 2 2;|;");
        Check.dueLoadError("x1|,1,2,2;");
        Check.dueLoadError("x1\u00b2".replace("\u00b2", "|\u00b2"));
        Check.dueLoadError("x|0 0 1 1;");
        Check.dueLoadError("x|00 1 2 2;");
        Check.dueLoadError("x|01 1 2 2;");
        Check.dueLoadError("x1 |01 2 2;");
        Check.dueLoadError("x|17 17 2 2;");
        Check.dueLoadError("x|20 1 1 2;");
        Check.dueLoadError("x|99 1 1 2;");
        Check.dueLoadError("x|100 1 2 2;");
        Check.dueLoadError("x|160 1 2 2;");
        Check.dueLoadError("x|112 2;");
        Check.dueLoadError("x1 |122;");
        Check.dueLoadError("x|4294967297 1 2 2;");
        Check.dueLoadError("x|" + "1".repeat(150));
        Check.dueLoadError("x1 1 |1 2;");
        Check.dueLoadError("x1 1 2 |1;");
        Check.dueLoadError("x1 1 2 2;x3 3 4 |1;");
        Check.dueLoadError("x1 1 2 2;x|2");
        Check.dueLoadError("x1 1 2 2;x3 |2?");
        Check.dueLoadError("o;o;o;o;|o;");
        Check.dueLoadError("o;x1 1 2 2;o;o;o;|o");
        Check.dueLoadError("o;o;o;o;|oy");
        Check.dueLoadError(Texts.EIGHT_KINKS + "|x");
        Check.dueLoadError(Texts.EIGHT_KINKS + "o;|x1 1 2 2;");
        // A token that is not allowed counts before arcs that occur once.
        Check.dueLoadError("x1 2 3 4;|?");
    }

    private static void refusesUnfinishedTexts() {
        Check.dueLoadError("|");
        Check.dueLoadError(" |");
        Check.dueLoadError(" ".repeat(160) + "|");
        Check.dueLoadError("x|");
        Check.dueLoadError("x |");
        Check.dueLoadError("x1|");
        Check.dueLoadError("x1 1 2|");
        Check.dueLoadError("x1 1 2 2|");
        Check.dueLoadError("o|");
        Check.dueLoadError("o |");
        Check.dueLoadError("o;x|");
        Check.dueLoadError("x1 1 2 2;o|");
        Check.dueLoadError("x1 2 3 4;|");
        Check.dueLoadError("x1 1 2 3;|");
        Check.dueLoadError("x1 1 2 3; |");
        Check.dueLoadError("x1 2 3 4;x1 2 3 5;|");
        Check.dueLoadError("o;x1 2 2 3;o;|");
    }

    private static void keepsRefusedText() {
        KnotDiagram d = Check.loaded("x1 1 2 2;o;");
        Check.append(d, "x3 3 4 4");
        Check.due("load() inside a statement", d.load(), -18);
        Check.dueState("a refused load()", d, "x 1 1 2 2; 1 circles");
        Check.due("undoDepth() after a refused load()", d.undoDepth(), 1);
        Check.due("coefficient(5) after a refused load()", d.coefficient(5), 1);
        Check.due("append(59) to the kept text", d.append(59), 9);
        Check.due("load() of the finished text", d.load(), 1);
        Check.dueState("load()", d, "x 3 3 4 4; 0 circles");
        Check.due("load() of the text that became empty", d.load(), -10);
        Check.due("undoDepth()", d.undoDepth(), 2);
    }
}
