/** Promises 28 to 31: undo, undoDepth, save and restore. */
public final class UndoTest {
    private UndoTest() {
    }

    public static void main(String[] args) {
        undoesEveryKindOfChange();
        keepsEightStates();
        refusedCallsSaveNothing();
        snapshots();
        restoreDiscardsSavedStates();
        slotsOutOfRange();
        textIsNoState();
        Check.finish();
    }

    private static void undoesEveryKindOfChange() {
        KnotDiagram d = new KnotDiagram();
        String[] states = new String[8];
        states[0] = Check.state(d);
        Check.due("load()", Check.load(d, Texts.TREFOIL + "o;"), 3);
        states[1] = Check.state(d);
        Check.due("mirror()", d.mirror(), 3);
        states[2] = Check.state(d);
        Check.due("switchCrossing(0)", d.switchCrossing(0), -1);
        states[3] = Check.state(d);
        Check.due("removeBigon(0, 1)", d.removeBigon(0, 1), 1);
        states[4] = Check.state(d);
        Check.due("removeKink(0)", d.removeKink(0), 0);
        states[5] = Check.state(d);
        Check.dueState("removeKink(0)", d, "2 circles");
        Check.due("load()", Check.load(d, "x1 2 2 1;o;o;"), 1);
        states[6] = Check.state(d);
        // A change that leads back to the same arcs is a change all the same.
        Check.due("load() of the same", Check.load(d, "x1 2 2 1;o;o;"), 1);
        for (int depth = 6; depth >= 0; depth--) {
            Check.due("undoDepth()", d.undoDepth(), depth + 1);
            Check.due("undo()", d.undo(), depth);
            Check.dueState("undo()", d, states[depth]);
        }
        Check.due("undo() of nothing", d.undo(), Check.STATE);
        Check.due("undoDepth()", d.undoDepth(), 0);
        Check.dueState("undo() of nothing", d, "1 circles");
        Check.due("load()", Check.load(d, "o;o;"), 0);
        Check.due("undo()", d.undo(), 0);
    }

    private static void keepsEightStates() {
        String[] texts = {"o;", "o;o;", "o;o;o;", "o;o;o;o;"};
        for (int changes = 1; changes <= 30; changes++) {
            KnotDiagram d = Check.loaded(texts[0]);
            for (int change = 1; change < changes; change++) {
                Check.load(d, texts[change % 4]);
            }
            int depth = Math.min(changes, 8);
            Check.due("undoDepth() after " + changes, d.undoDepth(), depth);
            for (int back = 1; back <= depth; back++) {
                Check.due("undo()", d.undo(), depth - back);
                int change = changes - 1 - back;
                Check.due("circleCount()", d.circleCount(), change < 0 ? 1 : change % 4 + 1);
            }
            Check.due("undo() of nothing", d.undo(), Check.STATE);
        }
        // Between changes, undo() frees a place.
        KnotDiagram d = new KnotDiagram();
        for (int k = 0; k < 12; k++) {
            Check.load(d, texts[k % 4]);
        }
        Check.due("undo()", d.undo(), 7);
        Check.due("undo()", d.undo(), 6);
        Check.load(d, "x1 1 2 2;");
        Check.due("undoDepth()", d.undoDepth(), 7);
        Check.due("undo()", d.undo(), 6);
        Check.due("circleCount()", d.circleCount(), 2);
        Check.due("undo()", d.undo(), 5);
        Check.due("circleCount()", d.circleCount(), 1);
    }

    private static void refusedCallsSaveNothing() {
        KnotDiagram d = Check.loaded(Texts.TREFOIL);
        Check.load(d, "x");
        d.switchCrossing(3);
        d.removeKink(0);
        d.removeKink(9);
        d.removeBigon(0, 1);
        d.removeBigon(1, 1);
        d.save(2);
        d.restore(2);
        d.restore(1);
        d.append(256);
        d.coefficient(61);
        Check.due("undoDepth()", d.undoDepth(), 1);
        Check.dueState("refused calls", d, "x 1 4 2 5; x 3 6 4 1; x 5 2 6 3; 0 circles");
        d.save(0);
        d.clearText();
        Check.due("undoDepth() after save()", d.undoDepth(), 1);
    }

    private static void snapshots() {
        KnotDiagram d = Check.loaded(Texts.TREFOIL + "o;o;");
        Check.due("restore(0) of an empty slot", d.restore(0), Check.STATE);
        Check.due("save(0)", d.save(0), 3);
        Check.due("restore(1) of an empty slot", d.restore(1), Check.STATE);
        d.switchCrossing(2);
        Check.due("save(1)", d.save(1), 3);
        Check.load(d, "o;");
        Check.due("restore(0)", d.restore(0), 3);
        Check.dueState("restore(0)", d, "x 1 4 2 5; x 3 6 4 1; x 5 2 6 3; 2 circles");
        d.mirror();
        Check.due("restore(1)", d.restore(1), 3);
        Check.dueState("restore(1)", d, "x 1 4 2 5; x 3 6 4 1; x 2 6 3 5; 2 circles");
        // The slot keeps its copy, whatever happens to the state.
        d.switchCrossing(0);
        d.undo();
        d.mirror();
        Check.due("restore(1) again", d.restore(1), 3);
        Check.dueState("restore(1) again", d, "x 1 4 2 5; x 3 6 4 1; x 2 6 3 5; 2 circles");
        Check.load(d, "o;");
        Check.due("save(1) without crossings", d.save(1), 0);
        Check.due("restore(0)", d.restore(0), 3);
        Check.due("restore(1) without crossings", d.restore(1), 0);
        Check.dueState("restore(1)", d, "1 circles");
        // Eight changes and more leave the slots alone.
        for (int k = 0; k < 11; k++) {
            Check.load(d, "x16 15 15 16;o;");
        }
        Check.due("restore(0)", d.restore(0), 3);
        Check.dueState("restore(0)", d, "x 1 4 2 5; x 3 6 4 1; x 5 2 6 3; 2 circles");
    }

    private static void restoreDiscardsSavedStates() {
        KnotDiagram d = Check.loaded(Texts.TREFOIL);
        d.mirror();
        d.save(1);
        Check.due("undoDepth() after save()", d.undoDepth(), 2);
        Check.due("restore(0) of an empty slot", d.restore(0), Check.STATE);
        Check.due("undoDepth() after a refused restore()", d.undoDepth(), 2);
        Check.due("restore(1)", d.restore(1), 3);
        Check.due("undoDepth() after restore()", d.undoDepth(), 0);
        Check.due("undo() after restore()", d.undo(), Check.STATE);
        d.switchCrossing(0);
        Check.due("undoDepth()", d.undoDepth(), 1);
        Check.due("undo()", d.undo(), 0);
        Check.dueState("undo()", d, "x 4 2 5 1; x 6 4 1 3; x 2 6 3 5; 0 circles");
    }

    private static void slotsOutOfRange() {
        KnotDiagram d = new KnotDiagram();
        for (int slot : new int[] {-1, 2, 3, 8, -8, Integer.MIN_VALUE, Integer.MAX_VALUE}) {
            Check.due("save(" + slot + ")", d.save(slot), Check.BAD);
            Check.due("restore(" + slot + ")", d.restore(slot), Check.BAD);
        }
        Check.due("restore(0) after wrong saves", d.restore(0), Check.STATE);
        Check.due("restore(1) after wrong saves", d.restore(1), Check.STATE);
    }

    /** The text is no part of the state: undo() and restore() leave it as it is. */
    private static void textIsNoState() {
        KnotDiagram d = Check.loaded("o;o;");
        d.save(0);
        Check.append(d, "x1 1");
        Check.due("undo()", d.undo(), 0);
        Check.due("restore(0)", d.restore(0), 0);
        Check.due("mirror()", d.mirror(), Check.STATE);
        Check.due("append", Check.append(d, " 2 2;"), 9);
        Check.due("load()", d.load(), 1);
        Check.due("undo()", d.undo(), 0);
        Check.due("clearText() after undo() of load()", d.clearText(), 0);
        Check.due("circleCount()", d.circleCount(), 2);
    }
}
