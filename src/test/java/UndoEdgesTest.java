import java.util.function.Consumer;

/** The edges that the section "Undo and snapshots" names, a method for each sentence. */
public final class UndoEdgesTest {
    // Each of these succeeds in the diagram of changeable(), and changes the state.
    private static final String[] NAMES = {"load", "switchCrossing", "mirror", "removeKink", "removeBigon"};
    private static final Change[] CHANGES = {d -> Check.load(d, Texts.TREFOIL), d -> d.switchCrossing(0),
        KnotDiagram::mirror, d -> d.removeKink(0), d -> d.removeBigon(1, 2)};

    private UndoEdgesTest() {
    }

    private interface Change {
        int on(KnotDiagram diagram);
    }

    public static void main(String[] args) {
        stateIsCrossingsAndCircles();
        eachChangeSavesOneState();
        changeWithoutDifferenceSaves();
        refusedChangeSavesNothing();
        otherCallsSaveNothing();
        undoDiscards();
        atMost8();
        ninthOfEachKind();
        refusedNinth();
        longHistory();
        undoBetweenChanges();
        slotsAreTwo();
        slotIsCopy();
        slotIsOverwritten();
        restoreDiscardsAll();
        restoreOfEmptySlot();
        changeAfterUndoOrRestore();
        Check.finish();
    }

    /** A kink, two rings and a circle. */
    private static KnotDiagram changeable() {
        return Check.loaded("x1 1 2 2;x3 4 5 6;x3 6 5 4;o;");
    }

    private static String changeableState() {
        return "x 1 1 2 2; x 3 4 5 6; x 3 6 5 4; 1 circles";
    }

    /** Loads a state that is told from those of the thirteen numbers before by an arc. */
    private static void loadState(KnotDiagram d, int number) {
        Check.holds("load() of a state", Check.load(d, stateText(number)) >= 0);
    }

    private static String stateText(int number) {
        int arc = number % 14 + 2;
        return "x1 " + arc + " " + arc + " 1;";
    }

    private static void dueLoaded(String what, KnotDiagram d, int number) {
        Check.dueText(what, Check.state(d), Check.state(Check.loaded(stateText(number))));
    }

    /** "The state consists of the crossings with their arcs and the number of circles." */
    private static void stateIsCrossingsAndCircles() {
        KnotDiagram d = changeable();
        d.save(0);
        Check.append(d, "x1 2");
        d.undo();
        Check.dueState("undo()", d, "1 circles");
        Check.due("append() after undo()", d.append(' '), 5);
        d.restore(0);
        Check.dueState("restore(0)", d, changeableState());
        Check.due("append() after restore()", Check.append(d, "1 2;"), 9);
        Check.due("load() of the text", d.load(), 1);
        Check.due("undo() of load()", d.undo(), 0);
        Check.due("clearText() after undo() of load()", d.clearText(), 0);
        // Nor are the slots part of it.
        d.save(1);
        d.mirror();
        d.save(1);
        d.undo();
        Check.due("restore(1)", d.restore(1), 3);
        Check.dueState("restore(1)", d, "x 1 2 2 1; x 4 5 6 3; x 6 5 4 3; 1 circles");
    }

    /** "Every successful call of load(), .. and removeBigon() saves the state that preceded it" */
    private static void eachChangeSavesOneState() {
        for (int kind = 0; kind < CHANGES.length; kind++) {
            KnotDiagram d = changeable();
            Check.holds(NAMES[kind] + " is refused", CHANGES[kind].on(d) >= -8);
            Check.holds(NAMES[kind] + " changes nothing", !Check.state(d).equals(changeableState()));
            Check.due("undoDepth() after " + NAMES[kind], d.undoDepth(), 2);
            Check.due("undo() of " + NAMES[kind], d.undo(), 1);
            Check.dueState("undo() of " + NAMES[kind], d, changeableState());
            Check.due("undo() of load()", d.undo(), 0);
            Check.dueState("undo() of load()", d, "1 circles");
        }
    }

    /** A successful call saves the state, though the new one is the same. */
    private static void changeWithoutDifferenceSaves() {
        KnotDiagram d = new KnotDiagram();
        Check.load(d, "o;");
        Check.due("undoDepth() after load() of the same", d.undoDepth(), 1);
        Check.load(d, "o;");
        Check.due("undoDepth() after load() of the same", d.undoDepth(), 2);
        Check.due("undo()", d.undo(), 1);
        Check.due("undo()", d.undo(), 0);
    }

    private static void refusedChangeSavesNothing() {
        KnotDiagram d = Check.loaded("x1 1 2 2;x3 4 5 6;x3 6 5 4;o;o;o;o;");
        Check.due("load()", Check.load(d, "o"), -11);
        Check.due("switchCrossing(3)", d.switchCrossing(3), Check.BAD);
        Check.due("removeKink(3)", d.removeKink(3), Check.BAD);
        Check.due("removeKink(1)", d.removeKink(1), Check.STATE);
        Check.due("removeKink(0)", d.removeKink(0), Check.FULL);
        Check.due("removeBigon(1, 1)", d.removeBigon(1, 1), Check.BAD);
        Check.due("removeBigon(0, 1)", d.removeBigon(0, 1), Check.STATE);
        Check.due("removeBigon(1, 2)", d.removeBigon(1, 2), Check.FULL);
        Check.due("undoDepth()", d.undoDepth(), 1);
        d.undo();
        Check.due("mirror()", d.mirror(), Check.STATE);
        Check.due("undoDepth()", d.undoDepth(), 0);
    }

    private static void otherCallsSaveNothing() {
        KnotDiagram d = changeable();
        d.append('o');
        d.clearText();
        d.save(0);
        d.save(1);
        d.isKink(0);
        d.bigonPartner(1);
        d.determinant();
        d.normalizedCoefficient(0);
        d.colouringDimension(7);
        d.stateLoops(7);
        d.writhe();
        d.genus();
        Check.due("undoDepth()", d.undoDepth(), 1);
    }

    /** "undo() restores the most recently saved state and discards it": it saves nothing itself */
    private static void undoDiscards() {
        KnotDiagram d = new KnotDiagram();
        loadState(d, 1);
        loadState(d, 2);
        loadState(d, 3);
        Check.due("undo()", d.undo(), 2);
        dueLoaded("undo()", d, 2);
        Check.due("undo()", d.undo(), 1);
        dueLoaded("undo() again, which goes on back", d, 1);
        Check.due("undo()", d.undo(), 0);
        Check.dueState("undo() of the first change", d, "1 circles");
        Check.due("undo() of nothing", d.undo(), Check.STATE);
        Check.dueState("undo() of nothing", d, "1 circles");
        Check.due("undoDepth()", d.undoDepth(), 0);
    }

    /** "At most 8 states are saved; when a ninth is saved, the oldest one is discarded." */
    private static void atMost8() {
        for (int changes = 7; changes <= 10; changes++) {
            KnotDiagram d = new KnotDiagram();
            for (int number = 1; number <= changes; number++) {
                loadState(d, number);
                Check.due("undoDepth()", d.undoDepth(), Math.min(number, 8));
            }
            for (int number = changes - 1; number >= Math.max(changes - 8, 1); number--) {
                Check.holds("undo() of " + changes, d.undo() >= 0);
                dueLoaded("undo() of " + changes, d, number);
            }
            if (changes <= 8) {
                Check.due("undo() to the first state", d.undo(), 0);
                Check.dueState("undo() to the first state", d, "1 circles");
            }
            Check.due("undo() of no more", d.undo(), Check.STATE);
        }
    }

    /** The ninth state can be saved by any of the five calls. */
    private static void ninthOfEachKind() {
        for (int kind = 0; kind < CHANGES.length; kind++) {
            KnotDiagram d = new KnotDiagram();
            for (int number = 1; number <= 7; number++) {
                loadState(d, number);
            }
            Check.load(d, "x1 1 2 2;x3 4 5 6;x3 6 5 4;o;");
            Check.due("undoDepth()", d.undoDepth(), 8);
            CHANGES[kind].on(d);
            Check.due("undoDepth() after " + NAMES[kind], d.undoDepth(), 8);
            Check.due("undo() of " + NAMES[kind], d.undo(), 7);
            Check.dueState("undo() of " + NAMES[kind], d, changeableState());
            for (int number = 7; number >= 1; number--) {
                Check.due("undo()", d.undo(), number - 1);
                dueLoaded("undo()", d, number);
            }
            Check.due("undo() of the oldest one, which was discarded", d.undo(), Check.STATE);
        }
    }

    /** A refused call does not discard the oldest state, though eight are saved. */
    private static void refusedNinth() {
        KnotDiagram d = new KnotDiagram();
        for (int number = 1; number <= 8; number++) {
            loadState(d, number);
        }
        Check.due("load()", Check.load(d, "x"), -11);
        Check.due("switchCrossing(1)", d.switchCrossing(1), Check.BAD);
        Check.due("removeBigon(0, 0)", d.removeBigon(0, 0), Check.BAD);
        Check.due("restore(1)", d.restore(1), Check.STATE);
        Check.due("save(2)", d.save(2), Check.BAD);
        for (int number = 7; number >= 0; number--) {
            Check.due("undo()", d.undo(), number);
        }
        Check.dueState("undo() to the oldest one", d, "1 circles");
    }

    /** However many states have been saved and discarded, the last eight are there. */
    private static void longHistory() {
        for (int changes = 11; changes <= 30; changes++) {
            KnotDiagram d = new KnotDiagram();
            for (int number = 1; number <= changes; number++) {
                loadState(d, number);
            }
            for (int back = 1; back <= 8; back++) {
                Check.due("undo()", d.undo(), 8 - back);
                dueLoaded("undo() after " + changes, d, changes - back);
            }
            Check.due("undo() of no more", d.undo(), Check.STATE);
        }
    }

    /** After undo() new states take the places that it left. */
    private static void undoBetweenChanges() {
        for (int undone = 1; undone <= 8; undone++) {
            KnotDiagram d = new KnotDiagram();
            for (int number = 1; number <= 12; number++) {
                loadState(d, number);
            }
            for (int back = 1; back <= undone; back++) {
                d.undo();
            }
            for (int number = 21; number < 21 + undone; number++) {
                loadState(d, number);
            }
            Check.due("undoDepth()", d.undoDepth(), 8);
            for (int number = 20 + undone - 1; number >= 21; number--) {
                d.undo();
                dueLoaded("undo() of a later change", d, number);
            }
            for (int number = 12 - undone; number >= 4; number--) {
                d.undo();
                dueLoaded("undo() of an earlier change", d, number);
            }
            Check.due("undoDepth() in the end", d.undoDepth(), 0);
        }
    }

    /** "two snapshot slots, 0 and 1": each holds its own state, and the undo states do not touch them */
    private static void slotsAreTwo() {
        KnotDiagram d = new KnotDiagram();
        d.save(0);
        Check.due("restore(1) after save(0)", d.restore(1), Check.STATE);
        loadState(d, 5);
        d.save(1);
        for (int number = 6; number <= 30; number++) {
            loadState(d, number);
        }
        Check.due("restore(0)", d.restore(0), 0);
        Check.dueState("restore(0)", d, "1 circles");
        Check.due("restore(1)", d.restore(1), 1);
        dueLoaded("restore(1)", d, 5);
        Check.due("restore(0) again", d.restore(0), 0);
        KnotDiagram other = changeable();
        other.save(1);
        Check.due("restore(0) after save(1)", other.restore(0), Check.STATE);
        Check.due("restore(1) after save(1)", other.restore(1), 3);
    }

    /** "a copy of the one in a snapshot slot, which is kept": no change of the state reaches it */
    private static void slotIsCopy() {
        for (int kind = 0; kind < CHANGES.length; kind++) {
            KnotDiagram d = changeable();
            d.save(0);
            CHANGES[kind].on(d);
            d.restore(0);
            Check.dueState("restore() after " + NAMES[kind], d, changeableState());
            CHANGES[kind].on(d);
            d.undo();
            CHANGES[kind].on(d);
            d.restore(0);
            Check.dueState("restore() again after " + NAMES[kind], d, changeableState());
        }
        // Eight crossings and four circles, and a copy with less in between.
        KnotDiagram d = Check.loaded(Texts.kinks(8) + Texts.circles(4));
        String all = Check.state(d);
        d.save(1);
        Check.load(d, "o;");
        d.save(0);
        Check.due("restore(1)", d.restore(1), 8);
        Check.dueText("restore(1)", Check.state(d), all);
        Check.due("restore(0)", d.restore(0), 0);
        Check.due("arcAt(0, 0) after restore(0)", d.arcAt(0, 0), Check.BAD);
        Check.due("restore(1)", d.restore(1), 8);
        Check.dueText("restore(1)", Check.state(d), all);
    }

    private static void slotIsOverwritten() {
        KnotDiagram d = changeable();
        d.save(0);
        Check.load(d, "o;o;o;");
        Check.due("save(0) into a filled slot", d.save(0), 0);
        d.mirror();
        Check.load(d, Texts.HOPF);
        Check.due("restore(0)", d.restore(0), 0);
        Check.dueState("restore(0)", d, "3 circles");
    }

    /** "All states saved for undo() are discarded": all eight of them, and then eight can be saved again. */
    private static void restoreDiscardsAll() {
        for (int changes = 0; changes <= 9; changes++) {
            KnotDiagram d = new KnotDiagram();
            d.save(1);
            for (int number = 1; number <= changes; number++) {
                loadState(d, number);
            }
            Check.due("restore(1)", d.restore(1), 0);
            Check.due("undoDepth() after restore()", d.undoDepth(), 0);
            Check.due("undo() after restore()", d.undo(), Check.STATE);
            Check.dueState("undo() after restore()", d, "1 circles");
            for (int number = 1; number <= 9; number++) {
                loadState(d, number);
                Check.due("undoDepth()", d.undoDepth(), Math.min(number, 8));
            }
            for (int number = 8; number >= 1; number--) {
                d.undo();
                dueLoaded("undo()", d, number);
            }
            Check.due("undo() of no more", d.undo(), Check.STATE);
        }
    }

    /** "ILLEGAL_STATE if the slot is empty": the states saved for undo() stay then */
    private static void restoreOfEmptySlot() {
        for (int slot = 0; slot < 2; slot++) {
            KnotDiagram d = changeable();
            d.save(1 - slot);
            d.mirror();
            Check.due("restore(" + slot + ")", d.restore(slot), Check.STATE);
            Check.due("undoDepth()", d.undoDepth(), 2);
            Check.due("undo()", d.undo(), 1);
            Check.dueState("undo()", d, changeableState());
        }
    }

    /** What undo() or restore() brought back is what the next change starts from, and what is asked then. */
    private static void changeAfterUndoOrRestore() {
        Consumer<KnotDiagram> undo = d -> {
            Check.load(d, Texts.TREFOIL);
            d.determinant();
            d.undo();
        };
        Consumer<KnotDiagram> restore = d -> {
            d.save(0);
            Check.load(d, Texts.TREFOIL);
            d.determinant();
            d.restore(0);
        };
        String[] wants = {"x 1 4 2 5; x 3 6 4 1; x 5 2 6 3; 0 circles", "x 1 2 2 1; x 3 4 5 6; x 3 6 5 4; 1 circles",
            "x 1 2 2 1; x 4 5 6 3; x 6 5 4 3; 1 circles", "x 3 4 5 6; x 3 6 5 4; 2 circles",
            "x 1 1 2 2; 3 circles"};
        for (int kind = 0; kind < CHANGES.length; kind++) {
            KnotDiagram d = changeable();
            undo.accept(d);
            Check.due("determinant() after undo()", d.determinant(), changeable().determinant());
            CHANGES[kind].on(d);
            Check.dueState(NAMES[kind] + " after undo()", d, wants[kind]);
            d = changeable();
            restore.accept(d);
            Check.due("determinant() after restore()", d.determinant(), changeable().determinant());
            CHANGES[kind].on(d);
            Check.dueState(NAMES[kind] + " after restore()", d, wants[kind]);
        }
    }
}
