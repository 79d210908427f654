/** The edges that the promises name, a method for each promise: ranges, what is just outside, and extremes. */
public final class PromiseEdgesTest {
    private PromiseEdgesTest() {
    }

    public static void main(String[] args) {
        promise1();
        promise2();
        promise3();
        promise4();
        promise5();
        promise6();
        promise7();
        promise8();
        promise9();
        promise10();
        promise11();
        promise12();
        promise13();
        promise14();
        promise15();
        promise16();
        promise17();
        promise18();
        promise19();
        promise20();
        promise21();
        promise22();
        promise23();
        promise24();
        promise25();
        promise26();
        promise27();
        promise28();
        promise29();
        promise30();
        promise31();
        theLastCall();
        Check.finish();
    }

    /** "with the diagram described above and an empty text": nothing is saved either, and no slot is filled. */
    private static void promise1() {
        KnotDiagram d = new KnotDiagram();
        Check.due("crossingCount() of a new object", d.crossingCount(), 0);
        Check.due("circleCount() of a new object", d.circleCount(), 1);
        Check.due("undoDepth() of a new object", d.undoDepth(), 0);
        Check.due("clearText() of a new object", d.clearText(), 0);
        Check.due("load() of a new object", d.load(), -10);
        // Two objects have nothing in common.
        KnotDiagram other = Check.loaded(Texts.TREFOIL);
        other.save(0);
        other.append('x');
        Check.dueText("another object's calls", Check.everything(d), Check.everything(new KnotDiagram()));
    }

    /** "character code, 0 to 255"; "CAPACITY_EXCEEDED if the text already has 160 characters". */
    private static void promise2() {
        Check.dueRange("append", 0, 255, character -> new KnotDiagram().append(character));
        for (int character = 0; character <= 255; character++) {
            KnotDiagram d = new KnotDiagram();
            Check.due("append(" + character + ")", d.append(character), 1);
            Check.due("append(" + character + ") again", d.append(character), 2);
        }
        KnotDiagram d = new KnotDiagram();
        for (int length = 1; length <= 160; length++) {
            Check.due("append() to " + (length - 1), d.append(length), length);
        }
        Check.due("append() to 160", d.append(160), Check.FULL);
        Check.due("append() to 160 again", d.append('x'), Check.FULL);
        // The range of the argument comes first in the list.
        for (int character : new int[] {Integer.MIN_VALUE, -1, 256, Integer.MAX_VALUE}) {
            Check.due("append(" + character + ") to 160", d.append(character), Check.BAD);
        }
        Check.due("clearText() of 160", d.clearText(), 160);
        Check.due("append() to the text made empty", d.append('o'), 1);
    }

    /** "Returns the previous length of the text", from 0 to 160. */
    private static void promise3() {
        for (int length = 0; length <= 160; length++) {
            KnotDiagram d = new KnotDiagram();
            Check.append(d, " ".repeat(length));
            Check.due("clearText() of " + length, d.clearText(), length);
            Check.due("clearText() again", d.clearText(), 0);
        }
        // Nothing is left of the text that was there.
        KnotDiagram d = new KnotDiagram();
        Check.append(d, "x1 1 2");
        d.clearText();
        Check.append(d, " 2;");
        Check.due("load() after clearText()", d.load(), -11);
    }

    /** "the number of crossings; or -10 minus the error position", which is from 0 to 160. */
    private static void promise4() {
        for (int crossings = 0; crossings <= 8; crossings++) {
            KnotDiagram d = new KnotDiagram();
            Check.due("load()", Check.load(d, Texts.kinks(crossings) + "o;"), crossings);
        }
        for (int position = 0; position <= 160; position++) {
            KnotDiagram d = new KnotDiagram();
            Check.append(d, " ".repeat(position));
            Check.due("load() of " + position + " spaces", d.load(), -10 - position);
            if (d.append('y') > 0) {
                Check.due("load() of " + position + " spaces and a y", d.load(), -10 - position);
            }
        }
        // "The text becomes empty; the snapshots stay"; "the text is kept then".
        KnotDiagram d = Check.loaded(Texts.KINK);
        d.save(1);
        Check.append(d, "o;o");
        Check.due("load() of an unfinished text", d.load(), -13);
        Check.due("load() of the same text", d.load(), -13);
        Check.due("append() to the kept text", d.append(';'), 4);
        Check.due("load() of the finished text", d.load(), 0);
        Check.due("clearText() after load()", d.clearText(), 0);
        Check.due("restore(0) after load()", d.restore(0), Check.STATE);
        Check.due("restore(1) after load()", d.restore(1), 1);
        // A statement that a refused text began has nothing to do with the next text.
        for (String begun : new String[] {"x", "x1", "x1 2 3", "x1 2 3 4", "o", "x1 2 3 4;?"}) {
            Check.holds("load() of " + begun, Check.load(d, begun) < 0);
            Check.due("load() after a refused " + begun, Check.load(d, "o;o;"), 0);
            Check.dueState("load() after a refused " + begun, d, "2 circles");
        }
    }

    private static void promise5() {
        for (int crossings = 0; crossings <= 8; crossings++) {
            KnotDiagram d = Check.loaded(Texts.virtuals(crossings) + "o;");
            Check.due("crossingCount() of " + crossings, d.crossingCount(), crossings);
        }
    }

    private static void promise6() {
        for (int circles = 0; circles <= 4; circles++) {
            KnotDiagram d = Check.loaded(Texts.VIRTUAL + Texts.circles(circles));
            Check.due("circleCount() of " + circles, d.circleCount(), circles);
        }
    }

    /** "1 to 16"; "if there is no such crossing, or if end is out of range". */
    private static void promise7() {
        Check.dueCrossings("arcAt(_, 0)", (d, crossing) -> d.arcAt(crossing, 0));
        Check.dueCrossings("arcAt(_, 3)", (d, crossing) -> d.arcAt(crossing, 3));
        KnotDiagram d = Check.loaded(Texts.EIGHT_KINKS);
        for (int end = 0; end < 32; end++) {
            Check.due("arcAt()", d.arcAt(end / 4, end % 4), end / 2 + 1);
        }
        for (int crossing = 0; crossing < 8; crossing++) {
            int number = crossing;
            Check.dueRange("arcAt(" + crossing + ", _)", 0, 3, end -> d.arcAt(number, end));
        }
        // An end beyond a crossing is not one of its neighbour's.
        Check.due("arcAt(1, -1)", d.arcAt(1, -1), Check.BAD);
        Check.due("arcAt(2, -4)", d.arcAt(2, -4), Check.BAD);
        Check.due("arcAt(0, 4)", d.arcAt(0, 4), Check.BAD);
        Check.due("arcAt(-1, 4)", d.arcAt(-1, 4), Check.BAD);
    }

    /** "the arcs at its ends 1, 2, 3 and 0 become those at its ends 0, 1, 2 and 3, in this order". */
    private static void promise8() {
        Check.dueCrossings("switchCrossing", KnotDiagram::switchCrossing);
        KnotDiagram d = Check.loaded("x1 2 3 4;x5 6 7 8;x4 3 2 1;x8 7 6 5;");
        d.switchCrossing(0);
        Check.dueState("switchCrossing(0)", d, "x 2 3 4 1; x 5 6 7 8; x 4 3 2 1; x 8 7 6 5; 0 circles");
        d.switchCrossing(3);
        Check.dueState("switchCrossing(3)", d, "x 2 3 4 1; x 5 6 7 8; x 4 3 2 1; x 7 6 5 8; 0 circles");
        // The last one of eight, and its sign afterwards.
        d = Check.loaded(Texts.EIGHT_KINKS);
        Check.due("switchCrossing(7)", d.switchCrossing(7), -1);
        Check.due("switchCrossing(7) again", d.switchCrossing(7), 1);
        Check.due("arcAt(7, 0) after two switches", d.arcAt(7, 0), 16);
        Check.due("arcAt(7, 1) after two switches", d.arcAt(7, 1), 16);
        Check.due("arcAt(7, 2) after two switches", d.arcAt(7, 2), 15);
    }

    /** "ILLEGAL_STATE if there are no crossings", however many circles there are. */
    private static void promise9() {
        for (int circles = 1; circles <= 4; circles++) {
            KnotDiagram d = Check.loaded(Texts.circles(circles));
            Check.due("mirror() of " + circles + " circles", d.mirror(), Check.STATE);
        }
        for (int crossings = 1; crossings <= 8; crossings++) {
            KnotDiagram d = Check.loaded(Texts.kinks(crossings));
            Check.due("mirror() of " + crossings + " kinks", d.mirror(), -crossings);
            for (int crossing = 0; crossing < crossings; crossing++) {
                Check.due("crossingSign() after mirror()", d.crossingSign(crossing), -1);
            }
            Check.due("mirror() of the mirror image", d.mirror(), crossings);
        }
        KnotDiagram d = Check.loaded(Texts.KINK);
        d.removeKink(0);
        Check.due("mirror() after the last crossing went", d.mirror(), Check.STATE);
    }

    /** "INVALID_ARGUMENT if there is no such crossing; ILLEGAL_STATE if it is no kink; CAPACITY_EXCEEDED .." */
    private static void promise10() {
        Check.dueCrossings("removeKink", KnotDiagram::removeKink);
        KnotDiagram d = Check.loaded(Texts.virtuals(8));
        for (int crossing = 0; crossing < 8; crossing++) {
            Check.due("removeKink(" + crossing + ") of no kink", d.removeKink(crossing), Check.STATE);
        }
        // "the number of crossings left": from 7 down to 0.
        d = Check.loaded("x1 1 2 3;x4 4 3 5;x6 6 5 7;x8 8 7 9;x10 10 9 11;x12 12 11 13;x14 14 13 15;x16 16 15 2;");
        for (int left = 7; left >= 0; left--) {
            Check.due("removeKink(0) of " + (left + 1), d.removeKink(0), left);
        }
        Check.dueState("removeKink() of all", d, "1 circles");
        Check.due("removeKink(0) of none", d.removeKink(0), Check.BAD);
        // "if there would be more than 4 circles"
        d = Check.loaded(Texts.kinks(2) + Texts.circles(3));
        Check.due("removeKink(1) with 3 circles", d.removeKink(1), 1);
        Check.due("removeKink(0) with 4 circles", d.removeKink(0), Check.FULL);
        Check.due("removeKink(1) with 4 circles", d.removeKink(1), Check.BAD);
        d = Check.loaded("x1 1 2 3;x2 3 4 4;" + Texts.circles(4));
        Check.due("removeKink(1) with 4 circles, that makes none", d.removeKink(1), 1);
        Check.due("removeKink(0) with 4 circles, that makes one", d.removeKink(0), Check.FULL);
    }

    /** "INVALID_ARGUMENT if there is no such crossing, or if x equals y; ILLEGAL_STATE ..; CAPACITY_EXCEEDED .." */
    private static void promise11() {
        for (int crossings = 2; crossings <= 8; crossings++) {
            int last = crossings - 1;
            KnotDiagram d = Check.loaded(Texts.virtuals(crossings));
            Check.dueRange("removeBigon(last, _)", 0, last - 1, y -> d.removeBigon(last, y));
            Check.dueRange("removeBigon(_, last)", 0, last - 1, x -> d.removeBigon(x, last));
            Check.dueRange("removeBigon(0, _)", 1, last, y -> d.removeBigon(0, y));
            Check.dueRange("removeBigon(_, 0)", 1, last, x -> d.removeBigon(x, 0));
            Check.due("removeBigon() of no bigon", d.removeBigon(0, last), Check.STATE);
        }
        for (int crossings = 0; crossings <= 8; crossings++) {
            KnotDiagram d = Check.loaded(Texts.virtuals(crossings) + "o;");
            for (int number = -2; number <= 9; number++) {
                Check.due("removeBigon(x, x)", d.removeBigon(number, number), Check.BAD);
            }
        }
        Check.due("removeBigon(0, 1) of one crossing", Check.loaded(Texts.KINK).removeBigon(0, 1), Check.BAD);
        Check.due("removeBigon(1, 0) of one crossing", Check.loaded(Texts.KINK).removeBigon(1, 0), Check.BAD);
        // "the number of crossings left": 6, 4, 2 and 0.
        KnotDiagram d = Check.loaded(
                "x1 2 3 4;x5 2 1 6;x3 7 8 9;x4 7 10 9;x5 11 12 13;x6 13 14 11;x8 15 16 12;x10 16 15 14;");
        Check.due("removeBigon(0, 1) of 8", d.removeBigon(0, 1), 6);
        d = Check.loaded(Texts.RINGS + "x5 6 7 8;x5 8 7 6;");
        Check.due("removeBigon(0, 1) of 4", d.removeBigon(0, 1), 2);
        Check.due("removeBigon(0, 1) of 2", d.removeBigon(0, 1), 0);
        Check.dueState("removeBigon() of all", d, "4 circles");
        bigonCircles();
    }

    /** "CAPACITY_EXCEEDED if there would be more than 4 circles": a removal makes two of them, one, or none. */
    private static void bigonCircles() {
        for (int circles = 0; circles <= 4; circles++) {
            String more = Texts.circles(circles);
            int two = Check.loaded(more + Texts.RINGS).removeBigon(0, 1);
            Check.due("two circles more than " + circles, two, circles + 2 <= 4 ? 0 : Check.FULL);
            int one = Check.loaded(more + "x1 2 3 3;x4 2 1 4;").removeBigon(0, 1);
            Check.due("a circle more than " + circles, one, circles + 1 <= 4 ? 0 : Check.FULL);
            int none = Check.loaded(more + "x1 2 5 7;x6 2 1 8;x5 6 7 8;").removeBigon(0, 1);
            Check.due("no circle more than " + circles, none, 1);
        }
    }

    private static void promise12() {
        Check.dueCrossings("isKink", KnotDiagram::isKink);
        KnotDiagram kinks = Check.loaded(Texts.EIGHT_KINKS);
        KnotDiagram virtuals = Check.loaded(Texts.virtuals(8));
        for (int crossing = 0; crossing < 8; crossing++) {
            Check.due("isKink(" + crossing + ")", kinks.isKink(crossing), 1);
            Check.due("isKink(" + crossing + ") of none", virtuals.isKink(crossing), 0);
        }
    }

    /** "the smallest crossing with which a crossing forms a bigon"; "NONE if it forms no bigon". */
    private static void promise13() {
        Check.dueCrossings("bigonPartner", KnotDiagram::bigonPartner);
        // The last but one and the last of eight, and nothing smaller.
        KnotDiagram d = Check.loaded(Texts.virtuals(6) + "x13 14 15 16;x13 16 15 14;");
        Check.due("bigonPartner(6)", d.bigonPartner(6), 7);
        Check.due("bigonPartner(7)", d.bigonPartner(7), 6);
        for (int crossing = 0; crossing < 6; crossing++) {
            // The arcs of these would make them bigons of a single crossing.
            Check.due("bigonPartner(" + crossing + ")", d.bigonPartner(crossing), Check.NONE);
        }
        // One crossing with two partners, before, between and behind them.
        String middle = "x1 2 3 4;";
        String one = "x5 2 1 6;";
        String other = "x6 4 3 5;";
        duePartners(middle + one + other, 1, 0, 0);
        duePartners(one + middle + other, 1, 0, 1);
        duePartners(other + one + middle, 2, 2, 0);
    }

    private static void duePartners(String text, int... partners) {
        KnotDiagram d = Check.loaded(text);
        for (int crossing = 0; crossing < partners.length; crossing++) {
            Check.due("bigonPartner(" + crossing + ") of " + text, d.bigonPartner(crossing), partners[crossing]);
        }
    }

    /** From 1 to 20: two closed curves for each of 8 crossings, and 4 circles. */
    private static void promise14() {
        Check.due("componentCount()", Check.loaded("o;").componentCount(), 1);
        Check.due("componentCount()", Check.loaded(Texts.KINK).componentCount(), 1);
        Check.due("componentCount()", Check.loaded(Texts.VIRTUAL).componentCount(), 2);
        String most = Texts.virtuals(8) + Texts.circles(4);
        Check.due("componentCount() of the most", Check.loaded(most).componentCount(), 20);
    }

    /** From 1 to 12. */
    private static void promise15() {
        Check.due("partCount()", Check.loaded("o;").partCount(), 1);
        Check.due("partCount()", Check.loaded(Texts.VIRTUAL).partCount(), 1);
        String most = Texts.EIGHT_KINKS + Texts.circles(4);
        Check.due("partCount() of the most", Check.loaded(most).partCount(), 12);
        // Eight crossings in a row are one part, and so they are with the ends of the row in the middle.
        String row = "x1 1 2 3;x2 3 4 5;x4 5 6 7;x6 7 8 9;x8 9 10 11;x10 11 12 13;x12 13 14 15;x14 15 16 16;";
        Check.due("partCount() of a row", Check.loaded(row).partCount(), 1);
        String[] crossings = row.split(";");
        String mixed = String.join(";", crossings[7], crossings[2], crossings[5], crossings[0], crossings[3],
                crossings[6], crossings[1], crossings[4]) + ";";
        Check.due("partCount() of a mixed row", Check.loaded(mixed).partCount(), 1);
        String cut = "x1 1 2 3;x2 3 4 5;x4 5 6 7;x6 7 8 8;x9 9 10 11;x10 11 12 13;x12 13 14 15;x14 15 16 16;";
        Check.due("partCount() of a row cut in two", Check.loaded(cut).partCount(), 2);
    }

    /** From 1 to 32: three faces for each of 8 kinks, and two for each of 4 circles. */
    private static void promise16() {
        Check.due("faceCount()", Check.loaded(Texts.VIRTUAL).faceCount(), 1);
        Check.due("faceCount()", Check.loaded("o;").faceCount(), 2);
        String most = Texts.EIGHT_KINKS + Texts.circles(4);
        Check.due("faceCount() of the most", Check.loaded(most).faceCount(), 32);
    }

    /** "it is 0 if the diagram can be drawn in the plane"; the greatest is 8. */
    private static void promise17() {
        for (int crossings = 0; crossings <= 8; crossings++) {
            String planar = Texts.kinks(crossings) + "o;";
            Check.due("genus() of " + planar, Check.loaded(planar).genus(), 0);
            String virtual = Texts.virtuals(crossings) + "o;o;";
            Check.due("genus() of " + virtual, Check.loaded(virtual).genus(), crossings);
        }
    }

    /** "whether each arc joins ..": without an arc it is, and a single arc can spoil it. */
    private static void promise18() {
        Check.due("isAlternating() without arcs", Check.loaded("o;o;o;o;").isAlternating(), 1);
        Check.due("isAlternating() of kinks", Check.loaded(Texts.EIGHT_KINKS).isAlternating(), 1);
        String lastSpoils = Texts.kinks(7) + "x15 16 15 16;";
        Check.due("isAlternating(), the last crossing spoils it", Check.loaded(lastSpoils).isAlternating(), 0);
        String firstSpoils = Texts.VIRTUAL + "x3 3 4 4;";
        Check.due("isAlternating(), the first crossing spoils it", Check.loaded(firstSpoils).isAlternating(), 0);
        Check.due("isAlternating(), two arcs spoil it", Check.loaded("x1 1 2 3;x2 3 4 4;").isAlternating(), 0);
    }

    private static void promise19() {
        Check.dueCrossings("crossingSign", KnotDiagram::crossingSign);
        KnotDiagram d = Check.loaded(Texts.EIGHT_KINKS);
        for (int crossing = 0; crossing < 8; crossing++) {
            Check.due("crossingSign(" + crossing + ")", d.crossingSign(crossing), 1);
            Check.due("switchCrossing(" + crossing + ")", d.switchCrossing(crossing), -1);
            Check.due("crossingSign(" + crossing + ") switched", d.crossingSign(crossing), -1);
        }
    }

    /** From -8 to 8. */
    private static void promise20() {
        Check.due("writhe() without crossings", Check.loaded("o;o;").writhe(), 0);
        KnotDiagram d = Check.loaded(Texts.EIGHT_KINKS + "o;");
        for (int crossing = 0; crossing < 8; crossing++) {
            Check.due("writhe()", d.writhe(), 8 - 2 * crossing);
            d.switchCrossing(crossing);
        }
        Check.due("writhe()", d.writhe(), -8);
    }

    /** "other bits are 0"; "INVALID_ARGUMENT if state is negative or has another bit". */
    private static void promise21() {
        for (int crossings = 0; crossings <= 8; crossings++) {
            KnotDiagram d = Check.loaded(Texts.kinks(crossings) + "o;");
            int all = (1 << crossings) - 1;
            Check.dueRange("stateLoops", 0, all, d::stateLoops);
            // A kink falls into two loops by the A-smoothing and into one by the other.
            Check.due("stateLoops(0)", d.stateLoops(0), 2 * crossings + 1);
            Check.due("stateLoops(" + all + ")", d.stateLoops(all), crossings + 1);
            for (int bit = 0; bit < 32; bit++) {
                int want = bit >= crossings ? Check.BAD : 2 * crossings;
                Check.due("stateLoops() of bit " + bit, d.stateLoops(1 << bit), want);
                int alone = bit >= crossings ? Check.BAD : crossings + 2;
                Check.due("stateLoops() of all but bit " + bit, d.stateLoops(all ^ 1 << bit), alone);
            }
        }
    }

    /** "-60 to 60". */
    private static void promise22() {
        for (String text : new String[] {"o;", Texts.TREFOIL, Texts.EIGHT_KINKS + Texts.circles(4)}) {
            KnotDiagram d = Check.loaded(text);
            Check.dueRange("coefficient", -60, 60, d::coefficient);
            Check.due("coefficient(-60)", d.coefficient(-60), 0);
            Check.due("coefficient(60)", d.coefficient(60), 0);
        }
    }

    /** "-60 to 60": near the edges the writhe leads beyond the exponents of the bracket. */
    private static void promise23() {
        for (String text : new String[] {"o;", Texts.TREFOIL, Texts.EIGHT_KINKS + Texts.circles(4),
            Texts.virtuals(8) + Texts.circles(4)}) {
            KnotDiagram d = Check.loaded(text);
            for (int image = 0; image < 2; image++) {
                Check.dueRange("normalizedCoefficient", -60, 60, d::normalizedCoefficient);
                Check.due("normalizedCoefficient(-60)", d.normalizedCoefficient(-60), 0);
                Check.due("normalizedCoefficient(60)", d.normalizedCoefficient(60), 0);
                d.mirror();
            }
        }
        // The greatest exponent that one sees: (A + A^-1)^8 * D^11 * (-A^3)^8.
        KnotDiagram d = Check.loaded(Texts.virtuals(8) + Texts.circles(4));
        Check.due("highestExponent()", d.highestExponent(), 30);
        Check.due("writhe()", d.writhe(), -8);
        Check.due("normalizedCoefficient(54)", d.normalizedCoefficient(54), -1);
        Check.due("normalizedCoefficient(55)", d.normalizedCoefficient(55), 0);
        Check.due("normalizedCoefficient(56)", d.normalizedCoefficient(56), 0);
        Check.due("normalizedCoefficient(-6)", d.normalizedCoefficient(-6), -1);
        Check.due("normalizedCoefficient(-8)", d.normalizedCoefficient(-8), 0);
    }

    /** "NONE if all coefficients are 0", which they are in no diagram: the sum at A = e^(i*pi/3) is 1. */
    private static void promise24() {
        Check.due("lowestExponent() of a circle", Check.loaded("o;").lowestExponent(), 0);
        KnotDiagram d = Check.loaded(Texts.EIGHT_KINKS + Texts.circles(4));
        Check.due("lowestExponent() of many loops", d.lowestExponent(), 2);
        d.mirror();
        Check.due("lowestExponent() of the mirror image", d.lowestExponent(), -46);
        Check.due("coefficient(-46)", d.coefficient(-46), -1);
        Check.due("coefficient(-47)", d.coefficient(-47), 0);
        for (int seed = 0; seed < 500; seed++) {
            d = Check.loaded(new Diagrams(seed).anyText(8));
            Check.holds("NONE, seed " + seed, d.lowestExponent() != Check.NONE);
            Check.holds("0 is no lowest one, seed " + seed, d.coefficient(d.lowestExponent()) != 0);
        }
    }

    private static void promise25() {
        Check.due("highestExponent() of a circle", Check.loaded("o;").highestExponent(), 0);
        KnotDiagram d = Check.loaded(Texts.EIGHT_KINKS + Texts.circles(4));
        Check.due("highestExponent() of many loops", d.highestExponent(), 46);
        Check.due("coefficient(46)", d.coefficient(46), -1);
        Check.due("coefficient(47)", d.coefficient(47), 0);
        d.mirror();
        Check.due("highestExponent() of the mirror image", d.highestExponent(), -2);
        for (int seed = 0; seed < 500; seed++) {
            d = Check.loaded(new Diagrams(seed).anyText(8));
            Check.holds("NONE, seed " + seed, d.highestExponent() != Check.NONE);
            Check.holds("0 is no highest one, seed " + seed, d.coefficient(d.highestExponent()) != 0);
        }
    }

    /** The absolute value of a sum that may be negative, positive or 0. */
    private static void promise26() {
        Check.due("determinant() of a circle", Check.loaded("o;").determinant(), 1);
        Check.due("determinant() of a kink, whose bracket is -A^3", Check.loaded(Texts.KINK).determinant(), 1);
        Check.due("determinant() of two kinks", Check.loaded("x1 1 2 3;x4 4 3 2;").determinant(), 1);
        Check.due("determinant() of many loops", Check.loaded(Texts.EIGHT_KINKS + "o;").determinant(), 0);
        Check.due("determinant() of a Hopf link", Check.loaded(Texts.HOPF).determinant(), 2);
    }

    /** "3, 5, 7 or 11"; "INVALID_ARGUMENT if p is another number", be it a prime or not. */
    private static void promise27() {
        KnotDiagram d = Check.loaded(Texts.virtuals(8) + Texts.circles(4));
        for (int p = -100; p <= 130; p++) {
            boolean allowed = p == 3 || p == 5 || p == 7 || p == 11;
            Check.due("colouringDimension(" + p + ")", d.colouringDimension(p), allowed ? 12 : Check.BAD);
        }
        int[] far = {Integer.MIN_VALUE, Integer.MIN_VALUE + 3, (1 << 30) + 5, 1 << 16 | 7, 259, Integer.MAX_VALUE};
        for (int p : far) {
            Check.due("colouringDimension(" + p + ")", d.colouringDimension(p), Check.BAD);
        }
    }

    /** "the number of states that are still saved; ILLEGAL_STATE if none was saved". */
    private static void promise28() {
        KnotDiagram d = new KnotDiagram();
        Check.due("undo() of a new object", d.undo(), Check.STATE);
        d.save(0);
        Check.due("undo() after save()", d.undo(), Check.STATE);
        for (int change = 0; change < 8; change++) {
            Check.load(d, "o;o;");
        }
        for (int left = 7; left >= 0; left--) {
            Check.due("undo()", d.undo(), left);
        }
        Check.due("undo() of no more", d.undo(), Check.STATE);
        Check.due("undo() of no more, again", d.undo(), Check.STATE);
    }

    /** "how many times undo() can succeed in succession", from 0 to 8. */
    private static void promise29() {
        for (int changes = 0; changes <= 20; changes++) {
            KnotDiagram d = new KnotDiagram();
            for (int change = 0; change < changes; change++) {
                Check.load(d, Texts.KINK);
            }
            int depth = d.undoDepth();
            Check.due("undoDepth() after " + changes, depth, Math.min(changes, 8));
            int successes = 0;
            while (d.undo() >= 0) {
                successes++;
                Check.due("undoDepth() after undo()", d.undoDepth(), depth - successes);
            }
            Check.due("times that undo() succeeded", successes, depth);
        }
    }

    /** "0 or 1"; "the number of crossings", from 0 to 8. */
    private static void promise30() {
        for (int crossings = 0; crossings <= 8; crossings++) {
            KnotDiagram d = Check.loaded(Texts.kinks(crossings) + "o;");
            Check.dueRange("save", 0, 1, d::save);
            Check.due("save(0)", d.save(0), crossings);
            Check.due("save(1)", d.save(1), crossings);
        }
    }

    /** "INVALID_ARGUMENT if slot is neither 0 nor 1; ILLEGAL_STATE if the slot is empty". */
    private static void promise31() {
        KnotDiagram empty = new KnotDiagram();
        Check.dueRange("restore() of empty slots", 0, 1, empty::restore);
        Check.due("restore(0) of an empty slot", empty.restore(0), Check.STATE);
        Check.due("restore(1) of an empty slot", empty.restore(1), Check.STATE);
        for (int slot = 0; slot < 2; slot++) {
            for (int crossings = 0; crossings <= 8; crossings++) {
                KnotDiagram d = Check.loaded(Texts.kinks(crossings) + "o;");
                d.save(slot);
                Check.load(d, Texts.HOPF);
                Check.due("restore() of the other slot", d.restore(1 - slot), Check.STATE);
                Check.due("restore(" + slot + ")", d.restore(slot), crossings);
                Check.due("crossingCount() after restore()", d.crossingCount(), crossings);
            }
        }
    }

    /** "for at most 512 calls": the last of them is answered as the first, and later ones come to an end. */
    private static void theLastCall() {
        KnotDiagram d = new KnotDiagram();
        int calls = 0;
        for (char character : Texts.KINK.toCharArray()) {
            d.append(character);
            calls++;
        }
        d.load();
        calls++;
        while (calls < 510) {
            Check.due("switchCrossing(0), call " + calls, d.switchCrossing(0), calls % 2 == 0 ? -1 : 1);
            calls++;
        }
        Check.due("coefficient(3), call 511", d.coefficient(3), -1);
        Check.due("undo(), call 512", d.undo(), 7);
        for (int later = 0; later < 100_000; later++) {
            d.append(later % 256);
            d.load();
            d.mirror();
            d.save(later % 2);
        }
    }
}
