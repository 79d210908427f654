/** Promises 21 to 26: loops of states, the bracket, the normalized bracket and the determinant. */
public final class BracketTest {
    private BracketTest() {
    }

    public static void main(String[] args) {
        loops();
        brackets();
        knots();
        exponentsOutOfRange();
        extremes();
        bracketFollowsChanges();
        invariance();
        Check.finish();
    }

    private static void loops() {
        KnotDiagram d = Check.loaded(Texts.TREFOIL + "o;");
        int[] want = {4, 3, 3, 2, 3, 2, 2, 3};
        for (int state = 0; state < 8; state++) {
            Check.due("stateLoops(" + state + ")", d.stateLoops(state), want[state]);
        }
        for (int state : new int[] {-1, 8, 9, 256, Integer.MIN_VALUE, Integer.MAX_VALUE}) {
            Check.due("stateLoops(" + state + ")", d.stateLoops(state), Check.BAD);
        }
        d = Check.loaded("x1 1 2 2;");
        Check.due("stateLoops(0) of a kink", d.stateLoops(0), 2);
        Check.due("stateLoops(1) of a kink", d.stateLoops(1), 1);
        Check.due("stateLoops(2) of a kink", d.stateLoops(2), Check.BAD);
        d = Check.loaded("x1 2 2 1;x3 3 4 4;");
        Check.due("stateLoops(0) of two kinks", d.stateLoops(0), 3);
        Check.due("stateLoops(1) of two kinks", d.stateLoops(1), 4);
        Check.due("stateLoops(2) of two kinks", d.stateLoops(2), 2);
        Check.due("stateLoops(3) of two kinks", d.stateLoops(3), 3);
        Check.due("stateLoops(4) of two kinks", d.stateLoops(4), Check.BAD);
        d = Check.loaded("o;o;o;");
        Check.due("stateLoops(0) of circles", d.stateLoops(0), 3);
        Check.due("stateLoops(1) of circles", d.stateLoops(1), Check.BAD);
        Check.due("stateLoops(-1) of circles", d.stateLoops(-1), Check.BAD);
    }

    /** The terms are exponents and coefficients in turn; all others are 0. */
    private static void duePolynomial(String what, KnotDiagram d, boolean normalized, int... terms) {
        int next = 0;
        for (int exponent = -60; exponent <= 60; exponent++) {
            int want = 0;
            if (next < terms.length && terms[next] == exponent) {
                want = terms[next + 1];
                next += 2;
            }
            int got = normalized ? d.normalizedCoefficient(exponent) : d.coefficient(exponent);
            Check.due(what + " at " + exponent, got, want);
        }
        Check.due(what + ": terms", next, terms.length);
        if (!normalized) {
            Check.due(what + ": lowestExponent()", d.lowestExponent(), terms[0]);
            Check.due(what + ": highestExponent()", d.highestExponent(), terms[terms.length - 2]);
        }
    }

    private static void brackets() {
        duePolynomial("a circle", Check.loaded("o;"), false, 0, 1);
        duePolynomial("two circles", Check.loaded("o;o;"), false, -2, -1, 2, -1);
        duePolynomial("four circles", Check.loaded("o;o;o;o;"), false, -6, -1, -2, -3, 2, -3, 6, -1);
        duePolynomial("a kink", Check.loaded("x1 1 2 2;"), false, 3, -1);
        duePolynomial("the other kink", Check.loaded("x1 2 2 1;"), false, -3, -1);
        duePolynomial("a kink and a circle", Check.loaded("x1 1 2 2;o;"), false, 1, 1, 5, 1);
        duePolynomial("a virtual crossing", Check.loaded("x1 2 1 2;"), false, -1, 1, 1, 1);
        duePolynomial("a Hopf link", Check.loaded("x4 1 3 2;x2 3 1 4;"), false, -4, -1, 4, -1);
        duePolynomial("a trefoil", Check.loaded(Texts.TREFOIL), false, -5, -1, 3, -1, 7, 1);
        duePolynomial("a kink, normalized", Check.loaded("x1 1 2 2;"), true, 0, 1);
        duePolynomial("the other kink, normalized", Check.loaded("x1 2 2 1;"), true, 0, 1);
        duePolynomial("two circles, normalized", Check.loaded("o;o;"), true, -2, -1, 2, -1);
        duePolynomial("a virtual crossing, normalized", Check.loaded("x1 2 1 2;"), true, 2, -1, 4, -1);
        duePolynomial("a Hopf link, normalized", Check.loaded("x4 1 3 2;x2 3 1 4;"), true, -10, -1, -2, -1);
    }

    /** Tables of knots give these polynomials and determinants. */
    private static void knots() {
        dueKnot(Texts.TREFOIL, 3, 4, 1, 12, 1, 16, -1);
        dueKnot("x4 2 5 1;x8 6 1 5;x6 3 7 4;x2 7 3 8;", 5, -8, 1, -4, -1, 0, 1, 4, -1, 8, 1);
        dueKnot("x1 6 2 7;x3 8 4 9;x5 10 6 1;x7 2 8 3;x9 4 10 5;", 5, 8, 1, 16, 1, 20, -1, 24, 1, 28, -1);
        dueKnot("x1 4 2 5;x3 8 4 9;x5 10 6 1;x9 6 10 7;x7 2 8 3;", 7, 4, 1, 8, -1, 12, 2, 16, -1, 20, 1, 24, -1);
        dueKnot("x1 4 2 5;x7 10 8 11;x3 9 4 8;x9 3 10 2;x5 12 6 1;x11 6 12 7;", 9,
                -8, 1, -4, -1, 0, 2, 4, -2, 8, 1, 12, -1, 16, 1);
        dueKnot("x1 4 2 5;x5 10 6 11;x3 9 4 8;x9 3 10 2;x7 12 8 1;x11 6 12 7;", 11,
                -4, 1, 0, -1, 4, 2, 8, -2, 12, 2, 16, -2, 20, 1);
        dueKnot("x4 2 5 1;x8 4 9 3;x12 9 1 10;x10 5 11 6;x6 11 7 12;x2 8 3 7;", 13,
                -12, -1, -8, 2, -4, -2, 0, 3, 4, -2, 8, 2, 12, -1);
        dueKnot("x1 8 2 9;x3 10 4 11;x5 12 6 13;x7 14 8 1;x9 2 10 3;x11 4 12 5;x13 6 14 7;", 7,
                12, 1, 20, 1, 24, -1, 28, 1, 32, -1, 36, 1, 40, -1);
        dueKnot("x4 2 5 1;x8 4 9 3;x9 15 10 14;x5 13 6 12;x13 7 14 6;x11 1 12 16;x15 11 16 10;x2 8 3 7;", 3,
                -32, -1, -20, 1, -12, 1);
        dueKnot("x6 2 7 1;x8 3 9 4;x16 11 1 12;x2 14 3 13;x4 15 5 16;x10 6 11 5;x12 7 13 8;x14 10 15 9;", 45,
                -16, 1, -12, -4, -8, 6, -4, -7, 0, 9, 4, -7, 8, 6, 12, -4, 16, 1);
        Check.due("determinant() of a Hopf link", Check.loaded("x4 1 3 2;x2 3 1 4;").determinant(), 2);
        Check.due("determinant() of two circles", Check.loaded("o;o;").determinant(), 0);
        Check.due("determinant() of a virtual crossing", Check.loaded("x1 2 1 2;").determinant(), 1);
        Check.due("determinant() of a trefoil and a circle", Check.loaded(Texts.TREFOIL + "o;").determinant(), 0);
    }

    private static void dueKnot(String text, int determinant, int... normalized) {
        KnotDiagram d = Check.loaded(text);
        Check.due("genus() of " + text, d.genus(), 0);
        Check.due("determinant() of " + text, d.determinant(), determinant);
        duePolynomial("normalized bracket of " + text, d, true, normalized);
        d.mirror();
        Check.due("determinant() of the mirror image of " + text, d.determinant(), determinant);
        for (int k = 0; k < normalized.length; k += 2) {
            Check.due("mirror image of " + text, d.normalizedCoefficient(-normalized[k]), normalized[k + 1]);
        }
    }

    private static void exponentsOutOfRange() {
        KnotDiagram d = Check.loaded(Texts.TREFOIL);
        for (int exponent : new int[] {-61, 61, Integer.MIN_VALUE, Integer.MAX_VALUE}) {
            Check.due("coefficient(" + exponent + ")", d.coefficient(exponent), Check.BAD);
            Check.due("normalizedCoefficient(" + exponent + ")", d.normalizedCoefficient(exponent), Check.BAD);
        }
        for (int exponent : new int[] {-60, 60}) {
            Check.due("coefficient(" + exponent + ")", d.coefficient(exponent), 0);
            Check.due("normalizedCoefficient(" + exponent + ")", d.normalizedCoefficient(exponent), 0);
        }
    }

    /** Eight kinks and four circles apart: the most loops, and the greatest exponents and coefficients. */
    private static void extremes() {
        KnotDiagram d = Check.loaded(Texts.EIGHT_KINKS + Texts.circles(4));
        Check.due("stateLoops(0)", d.stateLoops(0), 20);
        Check.due("stateLoops(255)", d.stateLoops(255), 12);
        // (-A^3)^8 * D^11, of which the coefficients are binomial ones with the sign of D^11.
        int binomial = 1;
        for (int k = 0; k <= 11; k++) {
            Check.due("coefficient", d.coefficient(24 + 22 - 4 * k), -binomial);
            Check.due("normalizedCoefficient", d.normalizedCoefficient(22 - 4 * k), -binomial);
            binomial = binomial * (11 - k) / (k + 1);
        }
        Check.due("lowestExponent()", d.lowestExponent(), 2);
        Check.due("highestExponent()", d.highestExponent(), 46);
        Check.due("determinant()", d.determinant(), 0);
        d.mirror();
        Check.due("lowestExponent()", d.lowestExponent(), -46);
        Check.due("coefficient(-46)", d.coefficient(-46), -1);
    }

    /** Every change of the state is seen in the bracket at once. */
    private static void bracketFollowsChanges() {
        KnotDiagram d = new KnotDiagram();
        Check.due("coefficient(0) of a new object", d.coefficient(0), 1);
        Check.load(d, Texts.TREFOIL);
        Check.due("highestExponent() after load()", d.highestExponent(), 7);
        d.save(0);
        d.switchCrossing(0);
        Check.due("determinant() after switchCrossing()", d.determinant(), 1);
        d.undo();
        Check.due("determinant() after undo()", d.determinant(), 3);
        d.mirror();
        Check.due("highestExponent() after mirror()", d.highestExponent(), 5);
        d.restore(0);
        Check.due("highestExponent() after restore()", d.highestExponent(), 7);
        d.switchCrossing(0);
        d.removeBigon(0, 1);
        int exponent = d.lowestExponent();
        Check.due("highestExponent() after removeBigon()", d.highestExponent(), exponent);
        Check.due("3 times the writhe", exponent, 3 * d.writhe());
        d.removeKink(0);
        Check.due("lowestExponent() after removeKink()", d.lowestExponent(), 0);
    }

    /** A bigon's removal keeps the bracket, and both removals keep the normalized one of a knot. */
    private static void invariance() {
        int kinks = 0;
        int bigons = 0;
        for (int seed = 0; seed < 4000; seed++) {
            String text = new Diagrams(seed).tangledText();
            bigons += bracketStays(text) ? 1 : 0;
            kinks += normalizedBracketStays(text) ? 1 : 0;
        }
        Check.holds("too few removals: " + kinks + " kinks, " + bigons + " bigons", kinks > 200 && bigons > 200);
    }

    /** Removes the first bigon, if there is one that can be removed. */
    private static boolean bracketStays(String text) {
        KnotDiagram d = Check.loaded(text);
        for (int crossing = 0; crossing < d.crossingCount(); crossing++) {
            int partner = d.bigonPartner(crossing);
            if (partner >= 0) {
                int[] before = terms(d, false);
                boolean removed = d.removeBigon(crossing, partner) >= 0;
                Check.holds("bracket after removeBigon, " + text, same(before, terms(d, false)));
                return removed;
            }
        }
        return false;
    }

    /** Removes the first kink of a knot, if there is one that can be removed. */
    private static boolean normalizedBracketStays(String text) {
        KnotDiagram d = Check.loaded(text);
        boolean isKnot = d.componentCount() == 1;
        for (int crossing = 0; crossing < d.crossingCount(); crossing++) {
            if (isKnot && d.isKink(crossing) == 1) {
                int[] before = terms(d, true);
                boolean removed = d.removeKink(crossing) >= 0;
                Check.holds("normalized bracket after removeKink, " + text, same(before, terms(d, true)));
                return removed;
            }
        }
        return false;
    }

    private static int[] terms(KnotDiagram d, boolean normalized) {
        int[] terms = new int[121];
        for (int index = 0; index < 121; index++) {
            terms[index] = normalized ? d.normalizedCoefficient(index - 60) : d.coefficient(index - 60);
        }
        return terms;
    }

    private static boolean same(int[] one, int[] other) {
        return java.util.Arrays.equals(one, other);
    }
}
