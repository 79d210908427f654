/** Promises 5 to 13: what the diagram is, and how it changes. */
public final class MovesTest {
    private MovesTest() {
    }

    public static void main(String[] args) {
        counts();
        arcs();
        switches();
        switchTurnsComponentRound();
        mirrors();
        kinks();
        kinkJoinsArcs();
        kinkCapacity();
        bigons();
        bigonErrors();
        bigonJoinsArcs();
        bigonCapacity();
        Check.finish();
    }

    private static void counts() {
        KnotDiagram d = Check.loaded("o;x1 1 2 2;x3 4 3 4;o;");
        Check.due("crossingCount()", d.crossingCount(), 2);
        Check.due("circleCount()", d.circleCount(), 2);
        d = Check.loaded(Texts.TREFOIL);
        Check.due("crossingCount()", d.crossingCount(), 3);
        Check.due("circleCount()", d.circleCount(), 0);
    }

    private static void arcs() {
        KnotDiagram d = Check.loaded(Texts.TREFOIL);
        int[] want = {1, 4, 2, 5, 3, 6, 4, 1, 5, 2, 6, 3};
        for (int end = 0; end < want.length; end++) {
            Check.due("arcAt", d.arcAt(end / 4, end % 4), want[end]);
        }
        int[][] wrong = {{-1, 0}, {3, 0}, {0, -1}, {0, 4}, {2, 4}, {7, 0}, {8, 0},
            {Integer.MIN_VALUE, 0}, {Integer.MAX_VALUE, 3}, {0, Integer.MIN_VALUE}, {0, Integer.MAX_VALUE}};
        for (int[] at : wrong) {
            Check.due("arcAt(" + at[0] + ", " + at[1] + ")", d.arcAt(at[0], at[1]), Check.BAD);
        }
        Check.due("arcAt(0, 0) without crossings", new KnotDiagram().arcAt(0, 0), Check.BAD);
    }

    private static void switches() {
        KnotDiagram d = Check.loaded(Texts.TREFOIL);
        Check.due("switchCrossing(-1)", d.switchCrossing(-1), Check.BAD);
        Check.due("switchCrossing(3)", d.switchCrossing(3), Check.BAD);
        Check.due("switchCrossing(greatest int)", d.switchCrossing(Integer.MAX_VALUE), Check.BAD);
        Check.due("undoDepth() after wrong calls", d.undoDepth(), 1);
        Check.due("switchCrossing(1)", d.switchCrossing(1), 1);
        Check.dueState("switchCrossing(1)", d, "x 1 4 2 5; x 6 4 1 3; x 5 2 6 3; 0 circles");
        Check.due("undoDepth()", d.undoDepth(), 2);
        Check.due("writhe()", d.writhe(), -1);
        Check.due("determinant()", d.determinant(), 1);
        Check.due("switchCrossing(1) again", d.switchCrossing(1), -1);
        Check.dueState("switchCrossing(1) again", d, "x 1 4 2 5; x 4 1 3 6; x 5 2 6 3; 0 circles");
        Check.due("determinant()", d.determinant(), 3);
        Check.due("undo()", d.undo(), 2);
        Check.due("undo()", d.undo(), 1);
        Check.dueState("undo() twice", d, "x 1 4 2 5; x 3 6 4 1; x 5 2 6 3; 0 circles");
    }

    /** The loop of arc 1 is passed the other way after the switch, and with it the whole component. */
    private static void switchTurnsComponentRound() {
        KnotDiagram d = Check.loaded("x1 2 3 1;x2 4 5 6;x6 5 4 3;");
        Check.due("componentCount()", d.componentCount(), 2);
        Check.due("crossingSign(0)", d.crossingSign(0), -1);
        Check.due("crossingSign(1)", d.crossingSign(1), 1);
        Check.due("crossingSign(2)", d.crossingSign(2), 1);
        Check.due("switchCrossing(0)", d.switchCrossing(0), 1);
        Check.due("crossingSign(1) after the switch", d.crossingSign(1), -1);
        Check.due("crossingSign(2) after the switch", d.crossingSign(2), -1);
    }

    private static void mirrors() {
        KnotDiagram d = Check.loaded(Texts.TREFOIL + "o;");
        Check.due("mirror()", d.mirror(), 3);
        Check.dueState("mirror()", d, "x 4 2 5 1; x 6 4 1 3; x 2 6 3 5; 1 circles");
        Check.due("undoDepth()", d.undoDepth(), 2);
        Check.due("mirror() again", d.mirror(), -3);
        Check.dueState("mirror() again", d, "x 2 5 1 4; x 4 1 3 6; x 6 3 5 2; 1 circles");
        Check.due("undo()", d.undo(), 2);
        Check.due("undo()", d.undo(), 1);
        Check.dueState("undo() twice", d, "x 1 4 2 5; x 3 6 4 1; x 5 2 6 3; 1 circles");
        Check.load(d, "o;o;");
        Check.due("mirror() without crossings", d.mirror(), Check.STATE);
        Check.due("undoDepth() after a refused mirror()", d.undoDepth(), 2);
        Check.due("mirror() of a Hopf link", Check.loaded("x4 1 3 2;x2 3 1 4;").mirror(), -2);
    }

    private static void kinks() {
        String[] kinks = {"x1 1 2 2;", "x1 2 2 1;", "x1 1 2 3;x2 3 4 4;", "x2 1 1 3;x3 2 4 4;", "x2 3 1 1;x3 2 4 4;",
            "x1 2 3 1;x3 2 4 4;"};
        for (String text : kinks) {
            Check.due("isKink(0) of " + text, Check.loaded(text).isKink(0), 1);
        }
        Check.due("isKink(0) of x1 2 1 2;", Check.loaded("x1 2 1 2;").isKink(0), 0);
        KnotDiagram d = Check.loaded(Texts.TREFOIL);
        for (int crossing = 0; crossing < 3; crossing++) {
            Check.due("isKink(" + crossing + ")", d.isKink(crossing), 0);
            Check.due("removeKink(" + crossing + ")", d.removeKink(crossing), Check.STATE);
        }
        for (int crossing : new int[] {-1, 3, 8, Integer.MIN_VALUE, Integer.MAX_VALUE}) {
            Check.due("isKink(" + crossing + ")", d.isKink(crossing), Check.BAD);
            Check.due("removeKink(" + crossing + ")", d.removeKink(crossing), Check.BAD);
        }
        Check.due("undoDepth() after refused calls", d.undoDepth(), 1);
        d = Check.loaded("x1 2 1 3;x2 3 4 4;");
        Check.due("isKink(0)", d.isKink(0), 0);
        Check.due("isKink(1)", d.isKink(1), 1);
    }

    private static void kinkJoinsArcs() {
        KnotDiagram d = Check.loaded("x1 2 3 4;x9 9 5 1;x2 5 4 3;");
        Check.due("removeKink(1)", d.removeKink(1), 2);
        Check.dueState("removeKink(1)", d, "x 1 2 3 4; x 2 1 4 3; 0 circles");
        Check.due("undo()", d.undo(), 1);
        Check.dueState("undo()", d, "x 1 2 3 4; x 9 9 5 1; x 2 5 4 3; 0 circles");
        // The kink at k = 0 goes, though there is one at k = 2, too.
        d = Check.loaded("x1 1 2 2;o;");
        Check.due("removeKink(0)", d.removeKink(0), 0);
        Check.dueState("removeKink(0)", d, "2 circles");
        // A chain of kinks, from each of its ends.
        String chain = "x7 7 2 5;x2 4 3 5;x3 6 6 4;";
        d = Check.loaded(chain);
        Check.due("isKink(1)", d.isKink(1), 0);
        Check.due("removeKink(0)", d.removeKink(0), 2);
        Check.dueState("removeKink(0)", d, "x 2 4 3 2; x 3 6 6 4; 0 circles");
        Check.due("removeKink(0)", d.removeKink(0), 1);
        Check.dueState("removeKink(0)", d, "x 3 6 6 3; 0 circles");
        Check.due("removeKink(0)", d.removeKink(0), 0);
        Check.dueState("removeKink(0)", d, "1 circles");
        Check.due("undoDepth()", d.undoDepth(), 4);
        d = Check.loaded(chain);
        Check.due("removeKink(2)", d.removeKink(2), 2);
        Check.dueState("removeKink(2)", d, "x 7 7 2 5; x 2 3 3 5; 0 circles");
    }

    private static void kinkCapacity() {
        KnotDiagram d = Check.loaded("o;o;o;o;x1 1 2 2;x3 3 4 5;x4 5 6 6;");
        Check.due("removeKink(0) with 4 circles", d.removeKink(0), Check.FULL);
        Check.dueState("a refused removeKink(0)", d, "x 1 1 2 2; x 3 3 4 5; x 4 5 6 6; 4 circles");
        Check.due("undoDepth()", d.undoDepth(), 1);
        Check.due("removeKink(1) with 4 circles", d.removeKink(1), 2);
        Check.dueState("removeKink(1)", d, "x 1 1 2 2; x 4 4 6 6; 4 circles");
        Check.due("removeKink(1) with 4 circles", d.removeKink(1), Check.FULL);
        Check.due("removeKink(2)", d.removeKink(2), Check.BAD);
        d = Check.loaded("o;o;o;x1 1 2 2;x3 4 3 4;");
        Check.due("removeKink(0) with 3 circles", d.removeKink(0), 1);
        Check.dueState("removeKink(0)", d, "x 3 4 3 4; 4 circles");
        Check.due("removeKink(0) of no kink", d.removeKink(0), Check.STATE);
        Check.due("componentCount() after removals", d.componentCount(), 6);
    }

    private static void bigons() {
        // Two rings, one lying on the other: all four arcs go.
        KnotDiagram d = Check.loaded("x1 2 3 4;x1 4 3 2;");
        Check.due("bigonPartner(0)", d.bigonPartner(0), 1);
        Check.due("bigonPartner(1)", d.bigonPartner(1), 0);
        Check.due("removeBigon(1, 0)", d.removeBigon(1, 0), 0);
        Check.dueState("removeBigon(1, 0)", d, "2 circles");
        Check.due("undo()", d.undo(), 1);
        Check.dueState("undo()", d, "x 1 2 3 4; x 1 4 3 2; 0 circles");
        // The clasp of a Hopf link has i + j even.
        d = Check.loaded("x4 1 3 2;x2 3 1 4;");
        Check.due("bigonPartner(0) of a clasp", d.bigonPartner(0), Check.NONE);
        Check.due("bigonPartner(1) of a clasp", d.bigonPartner(1), Check.NONE);
        Check.due("removeBigon(0, 1) of a clasp", d.removeBigon(0, 1), Check.STATE);
        Check.due("bigonPartner(0) of a kink", Check.loaded("x1 1 2 2;").bigonPartner(0), Check.NONE);
        // A trefoil with one crossing switched comes undone.
        d = Check.loaded(Texts.TREFOIL);
        Check.due("bigonPartner(0) of a trefoil", d.bigonPartner(0), Check.NONE);
        d.switchCrossing(0);
        for (int x = 0; x < 2; x++) {
            Check.due("bigonPartner", d.bigonPartner(x), 1 - x);
            Check.due("removeBigon", d.removeBigon(x, 1 - x), 1);
            Check.dueState("removeBigon", d, "x 3 2 2 3; 0 circles");
            Check.due("undo()", d.undo(), 2);
        }
        Check.due("removeBigon(1, 2)", d.removeBigon(1, 2), Check.STATE);
    }

    private static void bigonErrors() {
        KnotDiagram d = Check.loaded("x1 2 3 4;x1 4 3 2;");
        int[][] wrong = {{0, 0}, {1, 1}, {-1, 0}, {0, -1}, {2, 0}, {0, 2}, {2, 2}, {-1, -1},
            {Integer.MIN_VALUE, 1}, {1, Integer.MAX_VALUE}};
        for (int[] xy : wrong) {
            Check.due("removeBigon(" + xy[0] + ", " + xy[1] + ")", d.removeBigon(xy[0], xy[1]), Check.BAD);
        }
        for (int crossing : new int[] {-1, 2, 8, Integer.MIN_VALUE, Integer.MAX_VALUE}) {
            Check.due("bigonPartner(" + crossing + ")", d.bigonPartner(crossing), Check.BAD);
        }
        Check.due("undoDepth()", d.undoDepth(), 1);
        Check.due("removeBigon(0, 0) without crossings", new KnotDiagram().removeBigon(0, 0), Check.BAD);
    }

    /** The crossings 1 and 3 form a bigon, and what was between them moves down. */
    private static void bigonJoinsArcs() {
        KnotDiagram d = Check.loaded("x5 5 6 7;x1 2 7 8;x9 9 6 11;x11 2 1 8;");
        Check.due("bigonPartner(1)", d.bigonPartner(1), 3);
        Check.due("bigonPartner(3)", d.bigonPartner(3), 1);
        Check.due("bigonPartner(0)", d.bigonPartner(0), Check.NONE);
        Check.due("removeBigon(3, 1)", d.removeBigon(3, 1), 2);
        Check.dueState("removeBigon(3, 1)", d, "x 5 5 6 7; x 9 9 6 7; 1 circles");
        Check.due("removeBigon(1, 0)", d.removeBigon(1, 0), Check.STATE);
        Check.due("removeKink(0)", d.removeKink(0), 1);
        Check.dueState("removeKink(0)", d, "x 9 9 6 6; 1 circles");
    }

    private static void bigonCapacity() {
        KnotDiagram d = Check.loaded("o;o;o;x1 2 3 4;x1 4 3 2;");
        Check.due("removeBigon(0, 1) with 3 circles", d.removeBigon(0, 1), Check.FULL);
        Check.dueState("a refused removeBigon", d, "x 1 2 3 4; x 1 4 3 2; 3 circles");
        Check.due("undoDepth()", d.undoDepth(), 1);
        Check.due("removeBigon(0, 2) with 3 circles", d.removeBigon(0, 2), Check.BAD);
        Check.load(d, "o;o;x1 2 3 4;x1 4 3 2;");
        Check.due("removeBigon(0, 1) with 2 circles", d.removeBigon(0, 1), 0);
        Check.dueState("removeBigon(0, 1)", d, "4 circles");
    }
}
