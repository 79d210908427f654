/** Promise 27: the dimension of the space of colourings. */
public final class ColouringTest {
    private static final int[] PRIMES = {3, 5, 7, 11};

    private ColouringTest() {
    }

    public static void main(String[] args) {
        dueDimensions("o;", 1, 1, 1, 1);
        dueDimensions("o;o;o;o;", 4, 4, 4, 4);
        dueDimensions("x1 1 2 2;", 1, 1, 1, 1);
        dueDimensions("x1 2 2 1;o;", 2, 2, 2, 2);
        dueDimensions("x1 2 1 2;", 1, 1, 1, 1);
        dueDimensions("x4 1 3 2;x2 3 1 4;", 1, 1, 1, 1);
        dueDimensions("x1 2 3 4;x1 4 3 2;", 2, 2, 2, 2);
        // A knot has more than the trivial colourings where p divides its determinant.
        dueDimensions("x1 4 2 5;x3 6 4 1;x5 2 6 3;", 2, 1, 1, 1);
        dueDimensions("x1 4 2 5;x3 6 4 1;x5 2 6 3;o;o;", 4, 3, 3, 3);
        dueDimensions("x4 2 5 1;x8 6 1 5;x6 3 7 4;x2 7 3 8;", 1, 2, 1, 1);
        dueDimensions("x1 4 2 5;x3 8 4 9;x5 10 6 1;x9 6 10 7;x7 2 8 3;", 1, 1, 2, 1);
        dueDimensions("x1 4 2 5;x7 10 8 11;x3 9 4 8;x9 3 10 2;x5 12 6 1;x11 6 12 7;", 2, 1, 1, 1);
        dueDimensions("x1 4 2 5;x5 10 6 11;x3 9 4 8;x9 3 10 2;x7 12 8 1;x11 6 12 7;", 1, 1, 1, 2);
        dueDimensions("x4 2 5 1;x8 4 9 3;x9 15 10 14;x5 13 6 12;x13 7 14 6;x11 1 12 16;x15 11 16 10;x2 8 3 7;",
                2, 1, 1, 1);
        // 8_18, with determinant 45, and 3-coloured in two ways at once.
        dueDimensions("x6 2 7 1;x8 3 9 4;x16 11 1 12;x2 14 3 13;x4 15 5 16;x10 6 11 5;x12 7 13 8;x14 10 15 9;",
                3, 2, 1, 1);
        // Two trefoils apart; four pairs of rings, one ring of each lying on the other, and a circle.
        dueDimensions("x1 4 2 5;x3 6 4 1;x5 2 6 3;x11 14 12 15;x13 16 14 11;x15 12 16 13;", 4, 2, 2, 2);
        dueDimensions("x1 2 3 4;x1 4 3 2;x5 6 7 8;x5 8 7 6;x9 10 11 12;x9 12 11 10;x13 14 15 16;x13 16 15 14;o;",
                9, 9, 9, 9);
        wrongPrimes();
        invariance();
        Check.finish();
    }

    private static void dueDimensions(String text, int... want) {
        KnotDiagram d = Check.loaded(text);
        for (int k = 0; k < PRIMES.length; k++) {
            Check.due("colouringDimension(" + PRIMES[k] + ") of " + text, d.colouringDimension(PRIMES[k]), want[k]);
        }
    }

    private static void wrongPrimes() {
        KnotDiagram d = Check.loaded("x1 4 2 5;x3 6 4 1;x5 2 6 3;");
        for (int p = -12; p <= 14; p++) {
            boolean allowed = p == 3 || p == 5 || p == 7 || p == 11;
            Check.due("colouringDimension(" + p + ")", d.colouringDimension(p), !allowed ? Check.BAD : p == 3 ? 2 : 1);
        }
        Check.due("colouringDimension(least int)", d.colouringDimension(Integer.MIN_VALUE), Check.BAD);
        Check.due("colouringDimension(greatest int)", d.colouringDimension(Integer.MAX_VALUE), Check.BAD);
    }

    /** The dimension stays when a kink or a bigon is removed. */
    private static void invariance() {
        int removed = 0;
        for (int seed = 0; seed < 3000; seed++) {
            KnotDiagram d = Check.loaded(new Diagrams(seed).tangledText());
            int p = PRIMES[seed % 4];
            int before = d.colouringDimension(p);
            for (int crossing = 0; crossing < d.crossingCount(); crossing++) {
                int partner = d.bigonPartner(crossing);
                if (d.removeKink(crossing) >= 0 || partner >= 0 && d.removeBigon(crossing, partner) >= 0) {
                    removed++;
                    Check.due("colouringDimension after a removal, seed " + seed, d.colouringDimension(p), before);
                }
            }
        }
        Check.holds("too few removals: " + removed, removed > 1000);
    }
}
