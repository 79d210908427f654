/** The four examples of the document, call by call, and promise 1. */
public final class ExamplesTest {
    private ExamplesTest() {
    }

    public static void main(String[] args) {
        newObject();
        kink();
        notInThePlane();
        arcsThatOccurOnce();
        twoCircles();
        Check.finish();
    }

    private static void newObject() {
        KnotDiagram d = new KnotDiagram();
        Check.dueState("a new object", d, "1 circles");
        Check.due("new: clearText()", d.clearText(), 0);
        Check.due("new: undoDepth()", d.undoDepth(), 0);
        Check.due("new: undo()", d.undo(), Check.STATE);
        Check.due("new: restore(0)", d.restore(0), Check.STATE);
        Check.due("new: restore(1)", d.restore(1), Check.STATE);
        Check.due("new: componentCount()", d.componentCount(), 1);
        Check.due("new: partCount()", d.partCount(), 1);
        Check.due("new: faceCount()", d.faceCount(), 2);
        Check.due("new: genus()", d.genus(), 0);
        Check.due("new: isAlternating()", d.isAlternating(), 1);
        Check.due("new: writhe()", d.writhe(), 0);
        Check.due("new: stateLoops(0)", d.stateLoops(0), 1);
        Check.due("new: coefficient(0)", d.coefficient(0), 1);
        Check.due("new: normalizedCoefficient(0)", d.normalizedCoefficient(0), 1);
        Check.due("new: lowestExponent()", d.lowestExponent(), 0);
        Check.due("new: highestExponent()", d.highestExponent(), 0);
        Check.due("new: determinant()", d.determinant(), 1);
        Check.due("new: colouringDimension(3)", d.colouringDimension(3), 1);
        Check.due("new: mirror()", d.mirror(), Check.STATE);
        Check.due("new: load()", d.load(), -10);
    }

    private static void appendEach(KnotDiagram d, String text) {
        for (int i = 0; i < text.length(); i++) {
            Check.due("append(" + (int) text.charAt(i) + ")", d.append(text.charAt(i)), i + 1);
        }
    }

    private static void kink() {
        KnotDiagram d = new KnotDiagram();
        appendEach(d, "x1 1 2 2;");
        Check.due("1: load()", d.load(), 1);
        Check.due("1: componentCount()", d.componentCount(), 1);
        Check.due("1: lowestExponent()", d.lowestExponent(), 3);
        Check.due("1: coefficient(3)", d.coefficient(3), -1);
        Check.due("1: isKink(0)", d.isKink(0), 1);
        Check.due("1: removeKink(0)", d.removeKink(0), 0);
        Check.due("1: circleCount()", d.circleCount(), 1);
    }

    private static void notInThePlane() {
        KnotDiagram d = new KnotDiagram();
        appendEach(d, "x1 2 1 2;");
        Check.due("2: load()", d.load(), 1);
        Check.due("2: genus()", d.genus(), 1);
        Check.due("2: determinant()", d.determinant(), 1);
        Check.due("2: isKink(0)", d.isKink(0), 0);
        Check.due("2: undo()", d.undo(), 0);
        Check.due("2: coefficient(0)", d.coefficient(0), 1);
    }

    private static void arcsThatOccurOnce() {
        KnotDiagram d = new KnotDiagram();
        appendEach(d, "x1 2 3 4;");
        Check.due("3: load()", d.load(), -19);
        Check.due("3: clearText()", d.clearText(), 9);
        Check.due("3: componentCount()", d.componentCount(), 1);
        Check.due("3: bigonPartner(0)", d.bigonPartner(0), -1000001);
        Check.due("3: mirror()", d.mirror(), -1000002);
    }

    private static void twoCircles() {
        KnotDiagram d = new KnotDiagram();
        appendEach(d, "o;o;");
        Check.due("4: load()", d.load(), 0);
        Check.due("4: partCount()", d.partCount(), 2);
        Check.due("4: faceCount()", d.faceCount(), 4);
        Check.due("4: coefficient(2)", d.coefficient(2), -1);
        Check.due("4: colouringDimension(3)", d.colouringDimension(3), 2);
        Check.due("4: stateLoops(1)", d.stateLoops(1), -1000001);
        Check.due("4: writhe()", d.writhe(), 0);
        Check.due("4: removeKink(0)", d.removeKink(0), -1000001);
    }
}
