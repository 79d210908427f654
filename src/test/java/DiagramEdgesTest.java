/**
 * The edges that the sections "Diagrams", "Faces and genus", "Orientation", "Bracket" and "Colourings" name, a
 * method for each sentence.
 */
public final class DiagramEdgesTest {
    private DiagramEdgesTest() {
    }

    public static void main(String[] args) {
        crossingsAndCircles();
        newObject();
        arcsFrom1To16();
        arcWithBothEndsAtOneCrossing();
        oppositeEnds();
        circlesAreComponents();
        partsByArcs();
        nextEnd();
        circlesCountAsTwoFaces();
        circlesInTheGenus();
        orderOfEnds();
        smallestArc();
        directionsOfStrands();
        writheOfNone();
        smoothings();
        loopsOfCircles();
        singleState();
        normalizingFactor();
        determinantSteps();
        colourClasses();
        colourEquations();
        Check.finish();
    }

    /** "0 to 8 crossings, numbered from 0, and 0 to 4 circles" */
    private static void crossingsAndCircles() {
        for (int crossings = 0; crossings <= 8; crossings++) {
            for (int circles = crossings == 0 ? 1 : 0; circles <= 4; circles++) {
                KnotDiagram d = Check.loaded(Texts.kinks(crossings) + Texts.circles(circles));
                Check.due("crossingCount()", d.crossingCount(), crossings);
                Check.due("circleCount()", d.circleCount(), circles);
                Check.due("isKink() of the last one", d.isKink(crossings - 1), crossings == 0 ? Check.BAD : 1);
                Check.due("isKink() of one more", d.isKink(crossings), Check.BAD);
            }
        }
        KnotDiagram d = new KnotDiagram();
        Check.due("load() of a ninth crossing", Check.load(d, Texts.kinks(8) + "x"), -10 - Texts.kinks(8).length());
        Check.due("load() of a fifth circle", Check.load(d, "o;o;o;o;o;"), -18);
        Check.due("load() of neither crossings nor circles", Check.load(d, " "), -11);
    }

    /** "A new object has a diagram with no crossings and one circle." */
    private static void newObject() {
        KnotDiagram d = new KnotDiagram();
        Check.dueState("a new object", d, "1 circles");
        Check.due("arcAt(0, 0)", d.arcAt(0, 0), Check.BAD);
        Check.due("stateLoops(0)", d.stateLoops(0), 1);
        Check.due("determinant()", d.determinant(), 1);
    }

    /** "a number from 1 to 16": all sixteen at once, and the first and the last of them alone */
    private static void arcsFrom1To16() {
        KnotDiagram d = Check.loaded("x16 15 14 13;x12 11 10 9;x8 7 6 5;x4 3 2 1;"
                + "x1 2 3 4;x5 6 7 8;x9 10 11 12;x13 14 15 16;");
        for (int end = 0; end < 32; end++) {
            Check.due("arcAt()", d.arcAt(end / 4, end % 4), end < 16 ? 16 - end : end - 15);
        }
        Check.dueState("load()", Check.loaded("x16 1 1 16;"), "x 16 1 1 16; 0 circles");
        Check.due("load() with arc 0", Check.load(d, "x0 0 1 1;"), -11);
        Check.due("load() with arc 17", Check.load(d, "x17 17 1 1;"), -11);
    }

    /** "exactly two ends, which it joins; they can belong to the same crossing" */
    private static void arcWithBothEndsAtOneCrossing() {
        Check.due("load()", Check.load(new KnotDiagram(), "x1 1 2 2;"), 1);
        Check.due("load()", Check.load(new KnotDiagram(), "x1 2 2 1;"), 1);
        Check.due("load()", Check.load(new KnotDiagram(), "x1 2 1 2;"), 1);
        Check.due("load() of an arc at one end", Check.load(new KnotDiagram(), "x1 1 2 3;"), -19);
        Check.due("load() of an arc at three ends", Check.load(new KnotDiagram(), "x1 1 1 2;"), -15);
    }

    /** "computed modulo 4. The end opposite to end k is k + 2": 2 to 0 and 3 to 1, too */
    private static void oppositeEnds() {
        // From the end 2 or 3 of one crossing to the end 2 or 3 of the other: one closed curve, or two of them.
        Check.due("componentCount()", Check.loaded("x1 2 3 4;x2 1 3 4;").componentCount(), 1);
        Check.due("componentCount()", Check.loaded("x1 2 3 4;x1 2 3 4;").componentCount(), 2);
        Check.due("componentCount()", Check.loaded("x1 2 3 4;x3 4 1 2;").componentCount(), 2);
        Check.due("componentCount()", Check.loaded("x1 2 3 4;x3 1 2 4;").componentCount(), 1);
        Check.due("componentCount()", Check.loaded("x1 2 1 2;").componentCount(), 2);
        Check.due("componentCount()", Check.loaded("x1 1 2 2;").componentCount(), 1);
        // One curve through all ends of eight crossings, and the most curves.
        String one = "x1 1 2 3;x4 4 3 5;x6 6 5 7;x8 8 7 9;x10 10 9 11;x12 12 11 13;x14 14 13 15;x16 16 15 2;";
        Check.due("componentCount() of a long curve", Check.loaded(one).componentCount(), 1);
        Check.due("componentCount() of 16 curves", Check.loaded(Texts.virtuals(8)).componentCount(), 16);
    }

    /** "each circle is a component, too"; "each circle is a part of its own" */
    private static void circlesAreComponents() {
        for (int circles = 0; circles <= 4; circles++) {
            KnotDiagram d = Check.loaded(Texts.HOPF + Texts.circles(circles));
            Check.due("componentCount() with " + circles, d.componentCount(), 2 + circles);
            Check.due("partCount() with " + circles, d.partCount(), 1 + circles);
        }
        for (int circles = 1; circles <= 4; circles++) {
            KnotDiagram d = Check.loaded(Texts.circles(circles));
            Check.due("componentCount() of " + circles, d.componentCount(), circles);
            Check.due("partCount() of " + circles, d.partCount(), circles);
        }
    }

    /** "in the same part if one gets from one to the other by arcs", in as many steps as there are crossings */
    private static void partsByArcs() {
        // One arc, or all four, between two crossings; a chain from the last crossing to the first one.
        Check.due("partCount()", Check.loaded("x1 1 2 3;x4 4 2 3;").partCount(), 1);
        Check.due("partCount()", Check.loaded(Texts.RINGS).partCount(), 1);
        Check.due("partCount()", Check.loaded(Texts.kinks(2)).partCount(), 2);
        String chain = "x1 1 2 3;x14 15 16 16;x2 3 4 5;x12 13 14 15;x4 5 6 7;x10 11 12 13;x6 7 8 9;x8 9 10 11;";
        Check.due("partCount() of a chain", Check.loaded(chain).partCount(), 1);
        String interleaved = "x1 1 2 3;x9 9 10 11;x2 3 4 5;x10 11 12 13;x4 5 6 7;x12 13 14 15;x6 7 8 8;x14 15 16 16;";
        Check.due("partCount() of two chains", Check.loaded(interleaved).partCount(), 2);
    }

    /** "the next end is the end m + 1", which is the end 0 for m = 3; the arc can lead back to the crossing */
    private static void nextEnd() {
        Check.due("faceCount()", Check.loaded("x1 1 2 2;").faceCount(), 3);
        Check.due("faceCount()", Check.loaded("x1 2 2 1;").faceCount(), 3);
        Check.due("faceCount()", Check.loaded("x1 2 1 2;").faceCount(), 1);
        // Two crossings whose ends k and c - k are joined: in turn 4 faces for the plane.
        Check.due("faceCount()", Check.loaded("x1 2 3 4;x4 3 2 1;").faceCount(), 4);
        Check.due("faceCount()", Check.loaded("x1 2 3 4;x1 4 3 2;").faceCount(), 4);
        Check.due("faceCount()", Check.loaded("x1 2 3 4;x2 1 4 3;").faceCount(), 4);
        Check.due("faceCount()", Check.loaded("x1 2 3 4;x3 2 1 4;").faceCount(), 4);
        // Joined without turning round, the ends make two faces: k leads to c + k + 1 and that to 2c + k + 2.
        Check.due("faceCount()", Check.loaded("x1 2 3 4;x1 2 3 4;").faceCount(), 2);
        Check.due("faceCount()", Check.loaded("x1 2 3 4;x3 4 1 2;").faceCount(), 2);
    }

    /** "each circle counts as two faces" */
    private static void circlesCountAsTwoFaces() {
        for (int circles = 1; circles <= 4; circles++) {
            Check.due("faceCount()", Check.loaded(Texts.circles(circles)).faceCount(), 2 * circles);
            String more = Texts.VIRTUAL + Texts.circles(circles);
            Check.due("faceCount()", Check.loaded(more).faceCount(), 2 * circles + 1);
        }
    }

    /** "where circles are counted among the parts and the faces": so they do not change the genus */
    private static void circlesInTheGenus() {
        for (int circles = 0; circles <= 4; circles++) {
            String more = Texts.circles(circles);
            Check.due("genus()", Check.loaded(Texts.KINK + more).genus(), 0);
            Check.due("genus()", Check.loaded(Texts.VIRTUAL + more).genus(), 1);
            Check.due("genus()", Check.loaded("x1 2 3 4;x1 2 3 4;" + more).genus(), 1);
            Check.due("genus()", Check.loaded(Texts.virtuals(8) + more).genus(), 8);
        }
        Check.due("genus() of circles", Check.loaded("o;o;o;o;").genus(), 0);
    }

    /** "ordered by crossing and then by end number": first the lower crossing, though its end has a greater number */
    private static void orderOfEnds() {
        // Arc 1 is passed from the end 3 of crossing 0 to the end 0 of crossing 1.
        dueSigns("x3 4 4 1;x1 2 2 3;", -1, -1);
        // Arc 1 is passed from the lower end of crossing 0 to the higher one, and so is the curve across the other.
        dueSigns("x1 2 3 1;x2 4 5 6;x6 5 4 3;", -1, 1, 1);
        dueSigns("x1 1 2 3;x2 4 5 6;x6 5 4 3;", 1, -1, -1);
        dueSigns("x3 1 1 2;x2 4 5 6;x6 5 4 3;", -1, -1, -1);
    }

    private static void dueSigns(String text, int... signs) {
        KnotDiagram d = Check.loaded(text);
        int sum = 0;
        for (int crossing = 0; crossing < signs.length; crossing++) {
            Check.due("crossingSign(" + crossing + ") of " + text, d.crossingSign(crossing), signs[crossing]);
            sum += signs[crossing];
        }
        Check.due("writhe() of " + text, d.writhe(), sum);
    }

    /** "of all its arcs take the smallest one": it can be the only one, and its number can be 16 */
    private static void smallestArc() {
        for (int arc = 2; arc <= 16; arc++) {
            // Both curves have one arc each, which is passed towards its greater end.
            dueSigns("x1 # 1 #;".replace("#", "" + arc), -1);
            dueSigns("x# 1 # 1;".replace("#", "" + arc), -1);
        }
        dueSigns("x15 16 15 16;", -1);
        dueSigns("x16 15 16 15;", -1);
        // The arcs 15 and 16 are one curve, in which 15 is passed from crossing 0 to 1 and 16 comes back.
        dueSigns("x1 15 2 16;x1 15 2 16;", -1, -1);
        dueSigns("x1 16 2 15;x1 16 2 15;", 1, 1);
        dueSigns("x1 15 2 16;x2 15 1 16;", -1, 1);
        dueSigns("x1 16 2 15;x2 16 1 15;", 1, -1);
    }

    /** "+1 if .. from end 0 to end 2 and .. from end 3 to end 1, or both in the opposite directions; otherwise -1" */
    private static void directionsOfStrands() {
        dueSigns("x2 2 1 1;", 1);
        dueSigns("x1 1 2 2;", 1);
        dueSigns("x1 2 2 1;", -1);
        dueSigns("x3 4 4 1;x1 2 2 3;", -1, -1);
    }

    /** "the sum of the signs of all crossings", which is 0 without crossings */
    private static void writheOfNone() {
        Check.due("writhe() of a new object", new KnotDiagram().writhe(), 0);
        Check.due("writhe() of circles", Check.loaded("o;o;o;o;").writhe(), 0);
        Check.due("writhe()", Check.loaded(Texts.kinks(8)).writhe(), 8);
        Check.due("writhe()", Check.loaded(Texts.apart(8, 0, 1, 1, 0)).writhe(), -8);
        Check.due("writhe()", Check.loaded(Texts.apart(4, 0, 1, 1, 0) + "x9 9 10 10;").writhe(), -3);
    }

    /** "end 0 with .. end 1, and .. end 2 with .. end 3"; "end 0 with .. end 3, and .. end 1 with .. end 2" */
    private static void smoothings() {
        dueLoops("x1 1 2 2;", 2, 1);
        dueLoops("x1 2 2 1;", 1, 2);
        dueLoops("x1 2 1 2;", 1, 1);
        // Bit 0 is crossing 0, and the highest bit is the last crossing.
        dueLoops("x1 1 2 2;x3 4 4 3;", 3, 2, 4, 3);
        dueLoops("x1 2 1 2;x3 3 4 4;x5 6 5 6;", 4, 4, 3, 3, 4, 4, 3, 3);
        KnotDiagram d = Check.loaded(Texts.kinks(7) + "x15 16 16 15;");
        Check.due("stateLoops(0)", d.stateLoops(0), 15);
        Check.due("stateLoops(128)", d.stateLoops(128), 16);
        Check.due("stateLoops(127)", d.stateLoops(127), 8);
        Check.due("stateLoops(255)", d.stateLoops(255), 9);
    }

    private static void dueLoops(String text, int... loops) {
        KnotDiagram d = Check.loaded(text);
        for (int state = 0; state < loops.length; state++) {
            Check.due("stateLoops(" + state + ") of " + text, d.stateLoops(state), loops[state]);
        }
        Check.due("stateLoops(" + loops.length + ") of " + text, d.stateLoops(loops.length), Check.BAD);
    }

    /** "the circles included" */
    private static void loopsOfCircles() {
        for (int circles = 0; circles <= 4; circles++) {
            String more = Texts.circles(circles);
            dueLoops("x1 2 1 2;" + more, 1 + circles, 1 + circles);
            Check.due("the most loops", Check.loaded(Texts.kinks(8) + more).stateLoops(0), 16 + circles);
        }
    }

    /** "the sum, over all states": without crossings there is one, and D to the power of 0 is 1 */
    private static void singleState() {
        int[][] rows = {{1}, {-1, -1}, {1, 2, 1}, {-1, -3, -3, -1}};
        for (int circles = 1; circles <= 4; circles++) {
            KnotDiagram d = Check.loaded(Texts.circles(circles));
            int[] row = rows[circles - 1];
            for (int exponent = -60; exponent <= 60; exponent++) {
                int place = exponent + 2 * (circles - 1);
                boolean isTerm = place >= 0 && place % 4 == 0 && place / 4 < row.length;
                Check.due("coefficient(" + exponent + ")", d.coefficient(exponent), isTerm ? row[place / 4] : 0);
            }
            Check.due("lowestExponent()", d.lowestExponent(), -2 * (circles - 1));
            Check.due("highestExponent()", d.highestExponent(), 2 * (circles - 1));
        }
    }

    /** "times (-A^3) to the power of minus the writhe": for a writhe above 0, below it, and 0 */
    private static void normalizingFactor() {
        for (int crossings = 0; crossings <= 8; crossings++) {
            String more = Texts.circles(1);
            KnotDiagram above = Check.loaded(Texts.kinks(crossings) + more);
            KnotDiagram below = Check.loaded(Texts.apart(crossings, 0, 1, 1, 0) + more);
            KnotDiagram circles = Check.loaded(more);
            // So many unknotted curves have the bracket D^crossings.
            int first = crossings % 2 == 0 ? 1 : -1;
            for (KnotDiagram d : new KnotDiagram[] {above, below}) {
                Check.due("normalizedCoefficient()", d.normalizedCoefficient(2 * crossings), first);
                Check.due("normalizedCoefficient()", d.normalizedCoefficient(-2 * crossings), first);
                Check.due("normalizedCoefficient()", d.normalizedCoefficient(2 * crossings + 4), 0);
                Check.due("normalizedCoefficient()", d.normalizedCoefficient(-2 * crossings - 4), 0);
            }
            Check.due("writhe()", above.writhe(), crossings);
            Check.due("writhe()", below.writhe(), -crossings);
            Check.due("normalizedCoefficient(0) of a circle", circles.normalizedCoefficient(0), 1);
        }
        KnotDiagram none = Check.loaded("x1 1 2 3;x2 4 4 3;");
        Check.due("writhe()", none.writhe(), 0);
        for (int exponent = -60; exponent <= 60; exponent++) {
            Check.due("with writhe 0", none.normalizedCoefficient(exponent), none.coefficient(exponent));
        }
    }

    /** "at the exponent e + 4 * k, where e is the lowest exponent": others do not count; "the absolute value" */
    private static void determinantSteps() {
        // A^-1 + A: just the first one counts.
        Check.due("determinant()", Check.loaded("x1 2 1 2;").determinant(), 1);
        // (A^-1 + A) * D = -A^-3 - A^-1 - A - A^3: at -3 and 1.
        Check.due("determinant()", Check.loaded("x1 2 1 2;o;").determinant(), 0);
        // -A^-4 - A^4: at -4, 0 and 4, where the sign of the last one is +.
        Check.due("determinant()", Check.loaded(Texts.HOPF).determinant(), 2);
        // -A^-5 - A^3 + A^7: k is 0, 2 and 3.
        Check.due("determinant()", Check.loaded(Texts.TREFOIL).determinant(), 3);
        Check.due("determinant() of -A^3", Check.loaded(Texts.KINK).determinant(), 1);
        Check.due("determinant() of A^0", Check.loaded("o;").determinant(), 1);
        Check.due("determinant() of D", Check.loaded("o;o;").determinant(), 0);
        Check.due("determinant() of D^3", Check.loaded("o;o;o;o;").determinant(), 0);
    }

    /** "The ends 1 and 3 .. belong to the same colour class ..; each circle is a class of its own." */
    private static void colourClasses() {
        for (int circles = 1; circles <= 4; circles++) {
            for (int p : new int[] {3, 5, 7, 11}) {
                Check.due("circles", Check.loaded(Texts.circles(circles)).colouringDimension(p), circles);
                Check.due("and a kink", Check.loaded(Texts.KINK + Texts.circles(circles)).colouringDimension(p),
                        circles + 1);
            }
        }
        // One over strand through all of four crossings, and a curve under it at each of them.
        KnotDiagram d = Check.loaded("x5 1 5 2;x6 2 6 3;x7 3 7 4;x8 4 8 1;");
        Check.due("colouringDimension(3)", d.colouringDimension(3), 1);
        // The ends 1 and 3 of one crossing, the first or the last one, are all that holds two arcs together.
        Check.due("colouringDimension(3)", Check.loaded("x1 2 1 3;x2 4 3 4;").colouringDimension(3), 1);
        Check.due("colouringDimension(3)", Check.loaded("x2 4 3 4;x1 2 1 3;").colouringDimension(3), 1);
        // The ends 0 and 2 belong to two classes: a ring that passes under another one twice.
        Check.due("colouringDimension(3)", Check.loaded(Texts.RINGS).colouringDimension(3), 2);
        Check.due("colouringDimension(11)", Check.loaded(Texts.RINGS).colouringDimension(11), 2);
    }

    /** "the sum of the numbers at ends 0 and 2 is twice the number at end 1, modulo p" */
    private static void colourEquations() {
        int[] primes = {3, 5, 7, 11};
        String[] knots = {Texts.TREFOIL, "x4 2 5 1;x8 6 1 5;x6 3 7 4;x2 7 3 8;",
            "x1 4 2 5;x3 8 4 9;x5 10 6 1;x9 6 10 7;x7 2 8 3;",
            "x1 4 2 5;x5 10 6 11;x3 9 4 8;x9 3 10 2;x7 12 8 1;x11 6 12 7;"};
        for (int knot = 0; knot < 4; knot++) {
            KnotDiagram d = Check.loaded(knots[knot] + "o;");
            for (int p = 0; p < 4; p++) {
                Check.due("colouringDimension(" + primes[p] + ")", d.colouringDimension(primes[p]), p == knot ? 3 : 2);
            }
            // The equations of the mirror image are others, with as many colourings.
            d.mirror();
            Check.due("of the mirror image", d.colouringDimension(primes[knot]), 3);
        }
        // The most classes: sixteen curves, eight of them with an equation that makes 2a = 2b.
        Check.due("colouringDimension(3)", Check.loaded(Texts.virtuals(8)).colouringDimension(3), 8);
        // No equation but 0 = 0: kinks.
        Check.due("colouringDimension(5)", Check.loaded(Texts.kinks(8) + Texts.circles(4)).colouringDimension(5), 12);
    }
}
