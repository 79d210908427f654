import java.util.function.IntUnaryOperator;
import java.util.function.ToIntBiFunction;

/** What the tests share: they note every answer that is not the one that is due. */
final class Check {
    static final int BAD = KnotDiagram.INVALID_ARGUMENT;
    static final int STATE = KnotDiagram.ILLEGAL_STATE;
    static final int FULL = KnotDiagram.CAPACITY_EXCEEDED;
    static final int NONE = KnotDiagram.NONE;

    private static int wrong = 0;

    private Check() {
    }

    static void due(String what, long got, long want) {
        if (got != want) {
            wrong++;
            System.out.println(what + " answered " + got + ", due is " + want);
        }
    }

    /**
     * No argument from the first to the last one is refused as out of range, and all others are: those just
     * outside and those far away, of which some would come back by the wrap-around of 32 bits.
     */
    static void dueRange(String what, int first, int last, IntUnaryOperator call) {
        for (int inside = first; inside <= last; inside++) {
            holds(what + "(" + inside + ") is refused", call.applyAsInt(inside) != BAD);
        }
        int[] outside = {first - 1, first - 2, last + 1, last + 2, Integer.MIN_VALUE, Integer.MIN_VALUE + 1,
            -(1 << 30), BAD, -256, -32, -8, -4, -2, -1, 8, 9, 16, 32, 256, 512, 1 << 16, 1 << 28, 1 << 29, 1 << 30,
            (1 << 30) + 1, Integer.MAX_VALUE};
        for (int argument : outside) {
            if (argument < first || argument > last) {
                due(what + "(" + argument + ")", call.applyAsInt(argument), BAD);
            }
        }
    }

    /** The range of a parameter that is the number of a crossing, in diagrams with 0 to 8 crossings. */
    static void dueCrossings(String what, ToIntBiFunction<KnotDiagram, Integer> call) {
        for (int crossings = 0; crossings <= 8; crossings++) {
            KnotDiagram diagram = loaded(Texts.virtuals(crossings) + "o;");
            dueRange(what, 0, crossings - 1, crossing -> call.applyAsInt(diagram, crossing));
        }
    }

    static void holds(String what, boolean condition) {
        if (!condition) {
            wrong++;
            System.out.println(what);
        }
    }

    /** Appends a text; the answer is the last one of append(). */
    static int append(KnotDiagram diagram, String text) {
        int answer = 0;
        for (int i = 0; i < text.length(); i++) {
            answer = diagram.append(text.charAt(i));
        }
        return answer;
    }

    /** What load() answers for a text; the text is empty afterwards. */
    static int load(KnotDiagram diagram, String text) {
        diagram.clearText();
        append(diagram, text);
        int answer = diagram.load();
        diagram.clearText();
        return answer;
    }

    /** What a new object's load() answers for a text, which becomes empty or is kept. */
    static void dueLoad(String text, int want) {
        KnotDiagram diagram = new KnotDiagram();
        append(diagram, text);
        due("load() of \"" + text + "\"", diagram.load(), want);
        due("clearText() after load() of \"" + text + "\"", diagram.clearText(), want < 0 ? text.length() : 0);
    }

    /** The text has a "|" at the error position, which does not belong to it. */
    static void dueLoadError(String marked) {
        int position = marked.indexOf('|');
        dueLoad(marked.substring(0, position) + marked.substring(position + 1), -10 - position);
    }

    /** A new object that has read a text, which must be a diagram. */
    static KnotDiagram loaded(String text) {
        KnotDiagram diagram = new KnotDiagram();
        int answer = load(diagram, text);
        holds("no diagram: " + text + " (" + answer + ")", answer >= 0);
        return diagram;
    }

    /** The state as a text: each crossing's arcs, then the number of circles. */
    static String state(KnotDiagram diagram) {
        StringBuilder text = new StringBuilder();
        for (int crossing = 0; crossing < diagram.crossingCount(); crossing++) {
            text.append('x');
            for (int end = 0; end < 4; end++) {
                text.append(' ').append(diagram.arcAt(crossing, end));
            }
            text.append("; ");
        }
        return text.append(diagram.circleCount()).append(" circles").toString();
    }

    /**
     * All that an object holds, as a text: the state, the states that undo() restores, the snapshots and
     * what becomes of the text. It uses the object up.
     */
    static String everything(KnotDiagram diagram) {
        StringBuilder text = new StringBuilder(state(diagram)).append("\ndepth ").append(diagram.undoDepth());
        while (diagram.undo() >= 0) {
            text.append("\nundo ").append(state(diagram));
        }
        for (int slot = 0; slot < 2; slot++) {
            text.append("\nrestore ").append(diagram.restore(slot)).append(": ").append(state(diagram));
        }
        text.append("\nload ").append(diagram.load()).append(": ").append(state(diagram));
        return text.append("\ntext ").append(diagram.clearText()).toString();
    }

    static void dueState(String what, KnotDiagram diagram, String want) {
        dueText(what, state(diagram), want);
    }

    static void dueText(String what, String got, String want) {
        if (!got.equals(want)) {
            wrong++;
            System.out.println(what + " left \"" + got + "\", due is \"" + want + "\"");
        }
    }

    /** Ends the test, with exit code 1 if an answer was wrong. */
    static void finish() {
        System.out.println(wrong == 0 ? "all answers are as due" : wrong + " answers are not as due");
        if (wrong != 0) {
            System.exit(1);
        }
    }
}
