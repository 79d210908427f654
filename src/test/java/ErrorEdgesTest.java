import java.util.function.ToIntFunction;

/** The edges that the section "Errors" names, a method for each sentence. */
public final class ErrorEdgesTest {
    private static final int[] NUMBERS = {Integer.MIN_VALUE, -1000, -1, 8, 1 << 30, Integer.MAX_VALUE};

    private ErrorEdgesTest() {
    }

    public static void main(String[] args) {
        refusedArgumentsChangeNothing();
        refusedTextsChangeNothing();
        refusedRemovalsChangeNothing();
        refusalsWithoutCrossingsChangeNothing();
        firstErrorOfAppend();
        firstErrorOfRemoveKink();
        firstErrorOfRemoveBigon();
        firstErrorOfRestore();
        noneIsNoError();
        constants();
        Check.finish();
    }

    /** Eight states are saved, the slots hold two others, and a text is begun. */
    private static KnotDiagram busy() {
        KnotDiagram d = Check.loaded(Texts.TREFOIL);
        d.save(0);
        d.mirror();
        d.save(1);
        Check.load(d, "x1 1 2 2;x3 4 5 6;x3 6 5 4;o;o;o;o;");
        // Four switches lead round to the same arcs.
        for (int change = 0; change < 8; change++) {
            d.switchCrossing(0);
        }
        Check.append(d, "x9 10 9 10;");
        return d;
    }

    /** The same without crossings: nothing is saved, and no slot is filled. */
    private static KnotDiagram idle() {
        KnotDiagram d = new KnotDiagram();
        Check.append(d, "x9 10 9 10;");
        return d;
    }

    private static void dueNothing(String what, ToIntFunction<KnotDiagram> call, int want) {
        KnotDiagram d = busy();
        Check.due(what, call.applyAsInt(d), want);
        Check.dueText(what + " changed something", Check.everything(d), Check.everything(busy()));
    }

    private static void dueNothingWhenIdle(String what, ToIntFunction<KnotDiagram> call, int want) {
        KnotDiagram d = idle();
        Check.due(what, call.applyAsInt(d), want);
        Check.dueText(what + " changed something", Check.everything(d), Check.everything(idle()));
    }

    /** "A call that returns an error code changes nothing." */
    private static void refusedArgumentsChangeNothing() {
        for (int n : NUMBERS) {
            int character = n == 8 ? 256 : n;
            dueNothing("append(" + character + ")", d -> d.append(character), Check.BAD);
            dueNothing("arcAt(" + n + ", 0)", d -> d.arcAt(n, 0), Check.BAD);
            dueNothing("arcAt(0, " + n + ")", d -> d.arcAt(0, n), Check.BAD);
            dueNothing("switchCrossing(" + n + ")", d -> d.switchCrossing(n), Check.BAD);
            dueNothing("removeKink(" + n + ")", d -> d.removeKink(n), Check.BAD);
            dueNothing("removeBigon(" + n + ", 0)", d -> d.removeBigon(n, 0), Check.BAD);
            dueNothing("removeBigon(0, " + n + ")", d -> d.removeBigon(0, n), Check.BAD);
            dueNothing("isKink(" + n + ")", d -> d.isKink(n), Check.BAD);
            dueNothing("bigonPartner(" + n + ")", d -> d.bigonPartner(n), Check.BAD);
            dueNothing("crossingSign(" + n + ")", d -> d.crossingSign(n), Check.BAD);
            dueNothing("stateLoops(" + n + ")", d -> d.stateLoops(n), Check.BAD);
            int exponent = n == -1 ? -61 : n == 8 ? 61 : n;
            dueNothing("coefficient(" + exponent + ")", d -> d.coefficient(exponent), Check.BAD);
            dueNothing("normalizedCoefficient(" + exponent + ")", d -> d.normalizedCoefficient(exponent), Check.BAD);
            dueNothing("colouringDimension(" + n + ")", d -> d.colouringDimension(n), Check.BAD);
            dueNothing("save(" + n + ")", d -> d.save(n), Check.BAD);
            dueNothing("restore(" + n + ")", d -> d.restore(n), Check.BAD);
            dueNothingWhenIdle("save(" + n + ")", d -> d.save(n), Check.BAD);
            dueNothingWhenIdle("restore(" + n + ")", d -> d.restore(n), Check.BAD);
        }
        dueNothing("removeBigon(1, 1)", d -> d.removeBigon(1, 1), Check.BAD);
    }

    /** A refused load() keeps the text, and a full text stays as it is. */
    private static void refusedTextsChangeNothing() {
        for (String more : new String[] {"?", "x", "x1", "x9 9 9 9;", "o", "o;;", "x1 2 3 4;", "x1 1 2 2;x9", "01"}) {
            KnotDiagram d = busy();
            Check.append(d, more);
            KnotDiagram same = busy();
            Check.append(same, more);
            Check.holds("load() with " + more, d.load() <= -10);
            Check.dueText("load() with " + more, Check.everything(d), Check.everything(same));
        }
        for (int character : new int[] {'o', ';', ' ', '?', -1, 256}) {
            KnotDiagram d = busy();
            KnotDiagram same = busy();
            String spaces = " ".repeat(149);
            Check.due("append() to 160", Check.append(d, spaces), 160);
            Check.append(same, spaces);
            int want = character < 0 || character > 255 ? Check.BAD : Check.FULL;
            Check.due("append() to a full text", d.append(character), want);
            Check.dueText("append() to a full text", Check.everything(d), Check.everything(same));
        }
    }

    private static void refusedRemovalsChangeNothing() {
        dueNothing("removeKink(0)", d -> d.removeKink(0), Check.FULL);
        dueNothing("removeKink(1)", d -> d.removeKink(1), Check.STATE);
        dueNothing("removeKink(2)", d -> d.removeKink(2), Check.STATE);
        dueNothing("removeBigon(1, 2)", d -> d.removeBigon(1, 2), Check.FULL);
        dueNothing("removeBigon(2, 1)", d -> d.removeBigon(2, 1), Check.FULL);
        dueNothing("removeBigon(0, 1)", d -> d.removeBigon(0, 1), Check.STATE);
        dueNothing("removeBigon(2, 0)", d -> d.removeBigon(2, 0), Check.STATE);
        dueNothing("bigonPartner(0)", d -> d.bigonPartner(0), Check.NONE);
    }

    private static void refusalsWithoutCrossingsChangeNothing() {
        dueNothingWhenIdle("mirror()", KnotDiagram::mirror, Check.STATE);
        dueNothingWhenIdle("undo()", KnotDiagram::undo, Check.STATE);
        dueNothingWhenIdle("restore(0)", d -> d.restore(0), Check.STATE);
        dueNothingWhenIdle("restore(1)", d -> d.restore(1), Check.STATE);
        dueNothingWhenIdle("switchCrossing(0)", d -> d.switchCrossing(0), Check.BAD);
        dueNothingWhenIdle("removeKink(0)", d -> d.removeKink(0), Check.BAD);
        dueNothingWhenIdle("removeBigon(0, 1)", d -> d.removeBigon(0, 1), Check.BAD);
        dueNothingWhenIdle("stateLoops(1)", d -> d.stateLoops(1), Check.BAD);
    }

    /** "the one that its description lists first": the range before the room */
    private static void firstErrorOfAppend() {
        KnotDiagram d = new KnotDiagram();
        Check.append(d, " ".repeat(160));
        Check.due("append(255)", d.append(255), Check.FULL);
        Check.due("append(256)", d.append(256), Check.BAD);
        Check.due("append(0)", d.append(0), Check.FULL);
        Check.due("append(-1)", d.append(-1), Check.BAD);
    }

    /** The range, then whether it is a kink, then the circles. */
    private static void firstErrorOfRemoveKink() {
        KnotDiagram d = Check.loaded("x1 1 2 2;x3 4 3 4;o;o;o;o;");
        Check.due("removeKink(2)", d.removeKink(2), Check.BAD);
        Check.due("removeKink(1)", d.removeKink(1), Check.STATE);
        Check.due("removeKink(0)", d.removeKink(0), Check.FULL);
    }

    /** The range and x = y, then whether they form a bigon, then the circles. */
    private static void firstErrorOfRemoveBigon() {
        KnotDiagram d = Check.loaded("x1 2 3 4;x1 4 3 2;x5 6 5 6;o;o;o;");
        Check.due("removeBigon(3, 3)", d.removeBigon(3, 3), Check.BAD);
        Check.due("removeBigon(2, 3)", d.removeBigon(2, 3), Check.BAD);
        Check.due("removeBigon(2, 2)", d.removeBigon(2, 2), Check.BAD);
        Check.due("removeBigon(0, 0)", d.removeBigon(0, 0), Check.BAD);
        Check.due("removeBigon(0, 2)", d.removeBigon(0, 2), Check.STATE);
        Check.due("removeBigon(0, 1)", d.removeBigon(0, 1), Check.FULL);
    }

    /** A wrong slot is no empty one. */
    private static void firstErrorOfRestore() {
        KnotDiagram d = new KnotDiagram();
        Check.due("restore(-1)", d.restore(-1), Check.BAD);
        Check.due("restore(0)", d.restore(0), Check.STATE);
        Check.due("restore(1)", d.restore(1), Check.STATE);
        Check.due("restore(2)", d.restore(2), Check.BAD);
    }

    /** "NONE .. is returned only if no error condition applies" */
    private static void noneIsNoError() {
        KnotDiagram d = Check.loaded(Texts.TREFOIL);
        Check.due("bigonPartner(-1)", d.bigonPartner(-1), Check.BAD);
        Check.due("bigonPartner(2)", d.bigonPartner(2), Check.NONE);
        Check.due("bigonPartner(3)", d.bigonPartner(3), Check.BAD);
        Check.due("bigonPartner(0) without crossings", new KnotDiagram().bigonPartner(0), Check.BAD);
        Check.due("bigonPartner(0) of a single crossing", Check.loaded(Texts.KINK).bigonPartner(0), Check.NONE);
    }

    private static void constants() {
        Check.due("INVALID_ARGUMENT", new KnotDiagram().append(256), -1000001);
        Check.due("ILLEGAL_STATE", new KnotDiagram().undo(), -1000002);
        Check.due("CAPACITY_EXCEEDED", Check.loaded(Texts.KINK + "o;o;o;o;").removeKink(0), -1000003);
        Check.due("NONE", Check.loaded(Texts.KINK).bigonPartner(0), -1000009);
    }
}
