import java.math.BigInteger;
import java.util.TreeMap;

/** Long runs of calls on the class and on the model, whose answers have to be the same. */
public final class ModelTest {
    private static final int CALLS = 512;
    private static KnotDiagram diagram;
    private static Model model;
    private static Diagrams diagrams;
    private static int calls;

    private ModelTest() {
    }

    public static void main(String[] args) {
        for (int run = 0; run < 3000; run++) {
            diagrams = new Diagrams(run);
            diagram = new KnotDiagram();
            model = new Model();
            calls = 0;
            String text = diagrams.below(3) == 0 ? diagrams.anyText(8) : diagrams.tangledText();
            enter("run " + run + ", first text: ", text);
            while (calls < CALLS - 200) {
                oneStep("run " + run + ", call " + calls + ": ");
            }
        }
        Check.finish();
    }

    private static void due(String what, long got, long want) {
        calls++;
        Check.due(what, got, want);
    }

    private static void oneStep(String at) {
        switch (diagrams.below(40)) {
            case 0 -> enter(at, diagrams.anyText(diagrams.below(4) == 0 ? 8 : 3));
            case 1 -> enter(at, diagrams.tangledText());
            case 2 -> enter(at, diagrams.spoiltText());
            case 3 -> due(at + "mirror", diagram.mirror(), model.mirror());
            case 4, 5, 6 -> due(at + "undo", diagram.undo(), model.undo());
            case 7 -> askSlot(at);
            case 8, 9, 10, 11 -> askShape(at);
            case 12, 13, 14, 15 -> askBracket(at);
            case 16, 17 -> askColours(at);
            default -> askCrossing(at);
        }
        due(at + "undoDepth", diagram.undoDepth(), model.undoDepth());
    }

    private static void enter(String at, String text) {
        if (diagrams.below(3) != 0) {
            due(at + "clearText", diagram.clearText(), model.clearText());
        }
        // Several short texts fit into a run, but not several long ones.
        if (calls + text.length() > CALLS - 100) {
            return;
        }
        for (int i = 0; i < text.length(); i++) {
            due(at + "append", diagram.append(text.charAt(i)), model.append(text.charAt(i)));
        }
        due(at + "load of " + text, diagram.load(), model.load());
        dueArcs(at);
    }

    private static void dueArcs(String at) {
        due(at + "crossingCount", diagram.crossingCount(), model.crossingCount());
        due(at + "circleCount", diagram.circleCount(), model.circleCount());
        for (int crossing = 0; crossing < model.crossingCount(); crossing++) {
            for (int end = 0; end < 4; end++) {
                due(at + "arcAt " + crossing + " " + end, diagram.arcAt(crossing, end), model.arcAt(crossing, end));
            }
        }
    }

    private static void askSlot(String at) {
        int slot = diagrams.below(8) == 0 ? diagrams.below(5) - 2 : diagrams.below(2);
        if (diagrams.below(2) == 0) {
            due(at + "save " + slot, diagram.save(slot), model.save(slot));
        } else {
            due(at + "restore " + slot, diagram.restore(slot), model.restore(slot));
        }
    }

    private static void askShape(String at) {
        due(at + "componentCount", diagram.componentCount(), model.componentCount());
        due(at + "partCount", diagram.partCount(), model.partCount());
        due(at + "faceCount", diagram.faceCount(), model.faceCount());
        due(at + "genus", diagram.genus(), model.genus());
        due(at + "isAlternating", diagram.isAlternating(), model.isAlternating());
        due(at + "writhe", diagram.writhe(), model.writhe());
    }

    private static void askBracket(String at) {
        int exponent = diagrams.below(125) - 62;
        due(at + "coefficient " + exponent, diagram.coefficient(exponent), model.coefficient(exponent));
        due(at + "normalizedCoefficient " + exponent, diagram.normalizedCoefficient(exponent),
                model.normalizedCoefficient(exponent));
        due(at + "lowestExponent", diagram.lowestExponent(), model.lowestExponent());
        due(at + "highestExponent", diagram.highestExponent(), model.highestExponent());
        due(at + "determinant", diagram.determinant(), model.determinant());
        TreeMap<Integer, BigInteger> bracket = diagrams.below(2) == 0 ? model.bracket() : model.normalized();
        boolean isBracket = bracket.equals(model.bracket());
        if (diagrams.below(4) == 0 && calls < CALLS - 200) {
            for (int e : bracket.keySet()) {
                int got = isBracket ? diagram.coefficient(e) : diagram.normalizedCoefficient(e);
                due(at + "coefficient " + e, got, bracket.get(e).intValueExact());
            }
        }
        int state = diagrams.below((1 << model.crossingCount()) + 2) - 1;
        due(at + "stateLoops " + state, diagram.stateLoops(state), model.stateLoops(state));
    }

    private static void askColours(String at) {
        // The model tries all colourings, which would take too long for many crossings and a great p.
        int most = model.crossingCount() > 5 ? 5 : 14;
        int p = diagrams.below(most);
        due(at + "colouringDimension " + p, diagram.colouringDimension(p), model.colouringDimension(p));
    }

    /** Most often the number of a crossing, sometimes one just beside. */
    private static int someCrossing() {
        int crossings = model.crossingCount();
        boolean beside = crossings == 0 || diagrams.below(10) == 0;
        return beside ? diagrams.below(crossings + 3) - 1 : diagrams.below(crossings);
    }

    private static void askCrossing(String at) {
        int x = someCrossing();
        int y = someCrossing();
        due(at + "isKink " + x, diagram.isKink(x), model.isKink(x));
        due(at + "bigonPartner " + x, diagram.bigonPartner(x), model.bigonPartner(x));
        due(at + "crossingSign " + x, diagram.crossingSign(x), model.crossingSign(x));
        due(at + "arcAt " + x + " " + y, diagram.arcAt(x, y), model.arcAt(x, y));
        switch (diagrams.below(4)) {
            case 0 -> due(at + "removeKink " + x, diagram.removeKink(x), model.removeKink(x));
            case 1 -> due(at + "switchCrossing " + x, diagram.switchCrossing(x), model.switchCrossing(x));
            default -> {
                int partner = model.bigonPartner(x);
                int other = partner >= 0 && diagrams.below(4) != 0 ? partner : y;
                due(at + "removeBigon " + x + " " + other, diagram.removeBigon(x, other), model.removeBigon(x, other));
            }
        }
        if (diagrams.below(3) == 0) {
            dueArcs(at);
        }
    }
}
