/** What the tests share: they note every answer that is not the one that is due. */
final class Check {
    static final int BAD = KnotDiagram.INVALID_ARGUMENT;
    static final int STATE = KnotDiagram.ILLEGAL_STATE;
    static final int FULL = KnotDiagram.CAPACITY_EXCEEDED;
    static final int NONE = KnotDiagram.NONE;

    private static int wrong = 0;

    private Check() {
    }

    static void due(String what, long got, long want) {
        if (got != want) {
            wrong++;
            System.out.println(what + " answered " + got + ", due is " + want);
        }
    }

    static void holds(String what, boolean condition) {
        if (!condition) {
            wrong++;
            System.out.println(what);
        }
    }

    /** Appends a text; the answer is the last one of append(). */
    static int append(KnotDiagram diagram, String text) {
        int answer = 0;
        for (int i = 0; i < text.length(); i++) {
            answer = diagram.append(text.charAt(i));
        }
        return answer;
    }

    /** What load() answers for a text; the text is empty afterwards. */
    static int load(KnotDiagram diagram, String text) {
        diagram.clearText();
        append(diagram, text);
        int answer = diagram.load();
        diagram.clearText();
        return answer;
    }

    /** A new object that has read a text, which must be a diagram. */
    static KnotDiagram loaded(String text) {
        KnotDiagram diagram = new KnotDiagram();
        int answer = load(diagram, text);
        holds("no diagram: " + text + " (" + answer + ")", answer >= 0);
        return diagram;
    }

    /** The state as a text: each crossing's arcs, then the number of circles. */
    static String state(KnotDiagram diagram) {
        StringBuilder text = new StringBuilder();
        for (int crossing = 0; crossing < diagram.crossingCount(); crossing++) {
            text.append('x');
            for (int end = 0; end < 4; end++) {
                text.append(' ').append(diagram.arcAt(crossing, end));
            }
            text.append("; ");
        }
        return text.append(diagram.circleCount()).append(" circles").toString();
    }

    static void dueState(String what, KnotDiagram diagram, String want) {
        String got = state(diagram);
        if (!got.equals(want)) {
            wrong++;
            System.out.println(what + " left \"" + got + "\", due is \"" + want + "\"");
        }
    }

    /** Ends the test, with exit code 1 if an answer was wrong. */
    static void finish() {
        System.out.println(wrong == 0 ? "all answers are as due" : wrong + " answers are not as due");
        if (wrong != 0) {
            System.exit(1);
        }
    }
}
