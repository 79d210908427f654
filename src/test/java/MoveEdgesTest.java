/** The edges that the section "Moves" names, a method for each sentence. */
public final class MoveEdgesTest {
    private MoveEdgesTest() {
    }

    public static void main(String[] args) {
        kinkAtEachEnd();
        noKinkAcross();
        kinkAtTwoPlaces();
        bigonAtEachEnds();
        bigonParity();
        bigonOrder();
        bigonWithSharedArcs();
        smallerNumberStays();
        sameArcBecomesCircle();
        chainsOfJoins();
        greaterNumbersMoveDown();
        tooManyCircles();
        Check.finish();
    }

    /** A crossing whose ends from k on, counterclockwise, carry these arcs. */
    private static String crossing(int k, Object... arcs) {
        StringBuilder text = new StringBuilder();
        for (int end = 0; end < 4; end++) {
            text.append(end == 0 ? "x" : " ").append(arcs[(end - k + 4) % 4]);
        }
        return text.append(';').toString();
    }

    private static void dueKink(String text, int crossing, String want) {
        KnotDiagram d = Check.loaded(text);
        int crossings = d.crossingCount();
        Check.due("isKink(" + crossing + ") of " + text, d.isKink(crossing), 1);
        Check.due("removeKink(" + crossing + ") of " + text, d.removeKink(crossing), crossings - 1);
        Check.dueState("removeKink(" + crossing + ") of " + text, d, want);
    }

    private static void dueBigon(String text, int x, int y, String want) {
        KnotDiagram d = Check.loaded(text);
        int crossings = d.crossingCount();
        Check.due("removeBigon(" + x + ", " + y + ") of " + text, d.removeBigon(x, y), crossings - 2);
        Check.dueState("removeBigon(" + x + ", " + y + ") of " + text, d, want);
    }

    private static void dueNoBigon(String text, int x, int y) {
        KnotDiagram d = Check.loaded(text);
        Check.due("removeBigon(" + x + ", " + y + ") of " + text, d.removeBigon(x, y), Check.STATE);
        Check.due("bigonPartner(" + x + ") of " + text, d.bigonPartner(x), Check.NONE);
    }

    /** "an arc joins its ends k and k + 1": for k = 3 the end k + 1 is the end 0, and so for k + 2 and k + 3. */
    private static void kinkAtEachEnd() {
        for (int k = 0; k < 4; k++) {
            String kink = crossing(k, 7, 7, 3, 5);
            dueKink(kink + "x3 5 4 4;", 0, "x 3 3 4 4; 0 circles");
            dueKink("x3 5 4 4;" + kink, 1, "x 3 3 4 4; 0 circles");
            dueKink(crossing(k, 7, 7, 5, 3) + "x3 4 5 4;", 0, "x 3 4 3 4; 0 circles");
            dueKink(crossing(k, 7, 7, 3, 3), 0, "1 circles");
        }
    }

    /** An arc that joins opposite ends makes no kink, nor do arcs of other crossings. */
    private static void noKinkAcross() {
        String[] texts = {"x1 2 1 2;", "x1 2 1 3;x2 4 3 4;", "x2 1 3 1;x2 4 3 4;", "x1 2 3 4;x1 2 3 4;"};
        for (String text : texts) {
            KnotDiagram d = Check.loaded(text);
            for (int crossing = 0; crossing < d.crossingCount(); crossing++) {
                Check.due("isKink(" + crossing + ") of " + text, d.isKink(crossing), 0);
                Check.due("removeKink(" + crossing + ") of " + text, d.removeKink(crossing), Check.STATE);
            }
        }
    }

    /** "for the smallest such k": with two of them a crossing is alone, and one circle is left of it. */
    private static void kinkAtTwoPlaces() {
        dueKink("x1 1 2 2;", 0, "1 circles");
        dueKink("x1 2 2 1;", 0, "1 circles");
        dueKink("x2 2 1 1;o;x3 4 3 4;", 0, "x 3 4 3 4; 2 circles");
    }

    /** All i and j with an odd sum, where i + 1, j + 1 and the ends beyond them come round to 0. */
    private static void bigonAtEachEnds() {
        for (int i = 0; i < 4; i++) {
            for (int j = (i + 1) % 2; j < 4; j += 2) {
                // The ends i, i + 1, .. of x carry 1, 2, 5, 7 and the ends j, j + 1, .. of y carry 2, 1, 8, 6.
                String x = crossing(i, 1, 2, 5, 7);
                String y = crossing(j, 2, 1, 8, 6);
                dueBigon(x + y + "x5 6 7 8;", 0, 1, "x 5 5 7 7; 0 circles");
                dueBigon(x + y + "x5 6 7 8;", 1, 0, "x 5 5 7 7; 0 circles");
                dueBigon("x5 6 7 8;" + y + x, 2, 1, "x 5 5 7 7; 0 circles");
                dueBigon(y + "x8 5 6 7;" + x, 0, 2, "x 7 5 5 7; 0 circles");
                KnotDiagram d = Check.loaded(x + "x5 6 7 8;" + y);
                Check.due("bigonPartner(0)", d.bigonPartner(0), 2);
                Check.due("bigonPartner(1)", d.bigonPartner(1), Check.NONE);
                Check.due("bigonPartner(2)", d.bigonPartner(2), 0);
            }
        }
    }

    /** "and i + j is odd": with an even sum it is none. */
    private static void bigonParity() {
        for (int i = 0; i < 4; i++) {
            for (int j = i % 2; j < 4; j += 2) {
                String x = crossing(i, 1, 2, 5, 7);
                String y = crossing(j, 2, 1, 8, 6);
                dueNoBigon(x + y + "x5 6 7 8;", 0, 1);
                dueNoBigon(x + y + "x5 6 7 8;", 1, 0);
            }
        }
    }

    /** The end i of x and j + 1 of y, the end i + 1 of x and j of y: two arcs side by side are no bigon. */
    private static void bigonOrder() {
        for (int i = 0; i < 4; i++) {
            for (int j = 0; j < 4; j++) {
                dueNoBigon(crossing(i, 1, 2, 5, 7) + crossing(j, 1, 2, 8, 6) + "x5 6 7 8;", 0, 1);
                // One arc alone is no bigon, nor are two at opposite ends.
                dueNoBigon(crossing(i, 1, 2, 5, 7) + crossing(j, 3, 1, 8, 6) + "x5 6 7 8;x2 3 4 4;", 0, 1);
                dueNoBigon(crossing(i, 1, 5, 2, 7) + crossing(j, 2, 8, 1, 6) + "x5 6 7 8;", 0, 1);
            }
        }
    }

    /** "for the smallest such i and for this i the smallest j": with three arcs or four between x and y. */
    private static void bigonWithSharedArcs() {
        for (int i = 0; i < 4; i++) {
            for (int j = (i + 1) % 2; j < 4; j += 2) {
                dueBigon(crossing(i, 1, 2, 3, 4) + crossing(j, 2, 1, 4, 3), 0, 1, "2 circles");
                dueBigon(crossing(i, 1, 2, 3, 7) + crossing(j, 2, 1, 8, 3) + "x7 8 9 9;", 1, 0, "x 7 7 9 9; 1 circles");
                dueBigon(crossing(i, 1, 2, 7, 4) + crossing(j, 2, 1, 4, 8) + "x7 8 9 9;", 0, 1, "x 7 7 9 9; 1 circles");
            }
        }
    }

    /** "whose number is the smaller one of the two; it joins the remaining ends" */
    private static void smallerNumberStays() {
        dueKink("x1 1 9 10;x9 10 4 4;", 0, "x 9 9 4 4; 0 circles");
        dueKink("x1 1 10 9;x9 10 4 4;", 0, "x 9 9 4 4; 0 circles");
        dueKink("x9 9 16 1;x16 1 4 4;", 0, "x 1 1 4 4; 0 circles");
        dueKink("x2 3 4 4;x9 9 3 2;", 1, "x 2 2 4 4; 0 circles");
        // The remaining ends are at two crossings, or at two ends of one, before and behind the kink.
        dueKink("x6 2 8 2;x9 9 6 7;x7 3 8 3;", 1, "x 6 2 8 2; x 6 3 8 3; 0 circles");
        dueKink("x7 2 8 2;x9 9 6 7;x6 3 8 3;", 1, "x 6 2 8 2; x 6 3 8 3; 0 circles");
        dueBigon("x1 2 6 8;x5 2 1 7;x5 6 7 8;", 0, 1, "x 5 5 7 7; 0 circles");
        dueBigon("x1 2 16 3;x15 2 1 4;x16 15 3 4;", 0, 1, "x 15 15 3 3; 0 circles");
    }

    /** "If they are the same arc, it becomes a circle": at the first join, at the second one, and at both. */
    private static void sameArcBecomesCircle() {
        dueKink("x1 1 2 2;o;", 0, "2 circles");
        dueBigon("x1 2 3 7;x3 2 1 8;x7 8 9 9;", 0, 1, "x 7 7 9 9; 1 circles");
        dueBigon("x1 2 7 3;x8 2 1 3;x7 8 9 9;", 0, 1, "x 7 7 9 9; 1 circles");
        dueBigon("x1 2 3 4;x3 2 1 4;", 0, 1, "2 circles");
        dueBigon("x1 2 3 4;x3 2 1 4;o;o;", 1, 0, "4 circles");
    }

    /** "then first .., and after that ..": the second join meets the arc that the first one made. */
    private static void chainsOfJoins() {
        // x has a kink behind the bigon, or y has one: three arcs become one, with the smallest number.
        dueBigon("x1 2 3 3;x5 2 1 6;x5 6 9 9;", 0, 1, "x 3 3 9 9; 0 circles");
        dueBigon("x1 2 8 8;x5 2 1 6;x5 6 9 9;", 0, 1, "x 5 5 9 9; 0 circles");
        dueBigon("x1 2 8 8;x6 2 1 5;x5 6 9 9;", 0, 1, "x 5 5 9 9; 0 circles");
        dueBigon("x1 2 5 6;x3 2 1 3;x5 6 9 9;", 0, 1, "x 3 3 9 9; 0 circles");
        dueBigon("x1 2 6 5;x8 2 1 8;x5 6 9 9;", 0, 1, "x 5 5 9 9; 0 circles");
        // An arc leads from behind the bigon at x to the other side at y.
        dueBigon("x1 2 3 6;x5 2 1 3;x5 6 9 9;", 0, 1, "x 3 3 9 9; 0 circles");
        dueBigon("x1 2 5 3;x3 2 1 6;x5 6 9 9;", 0, 1, "x 3 3 9 9; 0 circles");
        dueBigon("x1 2 8 5;x6 2 1 8;x5 6 9 9;", 0, 1, "x 5 5 9 9; 0 circles");
        // Two such arcs: first they become one arc, and then this one becomes a circle.
        dueBigon("x1 2 3 3;x4 2 1 4;", 0, 1, "1 circles");
        dueBigon("x1 2 4 4;x3 2 1 3;", 1, 0, "1 circles");
        dueBigon("x1 2 3 4;x4 2 1 3;", 0, 1, "1 circles");
        dueBigon("x1 2 4 3;x3 2 1 4;", 1, 0, "1 circles");
    }

    /** "the crossings with greater numbers move down, in their order", wherever the removed ones were */
    private static void greaterNumbersMoveDown() {
        for (int gone = 0; gone < 8; gone++) {
            KnotDiagram d = Check.loaded(Texts.kinks(8));
            Check.due("removeKink(" + gone + ")", d.removeKink(gone), 7);
            for (int crossing = 0; crossing < 8; crossing++) {
                int arc = crossing == 7 ? Check.BAD : 2 * (crossing < gone ? crossing : crossing + 1) + 1;
                Check.due("arcAt(" + crossing + ", 0)", d.arcAt(crossing, 0), arc);
                Check.due("arcAt(" + crossing + ", 3)", d.arcAt(crossing, 3), arc == Check.BAD ? arc : arc + 1);
            }
        }
        for (int x = 0; x < 8; x++) {
            for (int y = 0; y < 8; y++) {
                if (x != y) {
                    bigonAmongVirtuals(x, y);
                }
            }
        }
    }

    /** Rings at x and y, and crossings in between that one can tell by their arcs. */
    private static void bigonAmongVirtuals(int x, int y) {
        StringBuilder text = new StringBuilder();
        StringBuilder want = new StringBuilder();
        int arc = 5;
        for (int crossing = 0; crossing < 8; crossing++) {
            String kept = arc + " " + (arc + 1) + " " + arc + " " + (arc + 1) + ";";
            if (crossing == x || crossing == y) {
                text.append(crossing == x ? "x1 2 3 4;" : "x1 4 3 2;");
            } else {
                text.append('x').append(kept);
                want.append("x ").append(kept).append(' ');
                arc += 2;
            }
        }
        dueBigon(text.toString(), x, y, want + "2 circles");
    }

    /** "CAPACITY_EXCEEDED if there would be more than 4 circles": with 4 it is done, with more nothing is. */
    private static void tooManyCircles() {
        KnotDiagram d = Check.loaded(Texts.KINK + "o;o;o;x3 4 5 6;x3 6 5 4;");
        Check.due("removeBigon(1, 2) to 5 circles", d.removeBigon(1, 2), Check.FULL);
        Check.dueState("removeBigon(1, 2)", d, "x 1 1 2 2; x 3 4 5 6; x 3 6 5 4; 3 circles");
        Check.due("removeKink(0) to 4 circles", d.removeKink(0), 2);
        Check.due("removeBigon(1, 0) to 6 circles", d.removeBigon(1, 0), Check.FULL);
        Check.dueState("removeBigon(1, 0)", d, "x 3 4 5 6; x 3 6 5 4; 4 circles");
        Check.due("undoDepth()", d.undoDepth(), 2);
        // What a refused removal began is not seen in the next change.
        Check.due("switchCrossing(0)", d.switchCrossing(0), 1);
        Check.dueState("switchCrossing(0)", d, "x 4 5 6 3; x 3 6 5 4; 4 circles");
        d = Check.loaded(Texts.kinks(2) + Texts.circles(4));
        Check.due("removeKink(0) to 5 circles", d.removeKink(0), Check.FULL);
        Check.due("mirror() after a refused removal", d.mirror(), -2);
        Check.dueState("mirror() after a refused removal", d, "x 1 2 2 1; x 3 4 4 3; 4 circles");
    }
}
