/** Promises 14 to 20: components, parts, faces, genus, alternation and signs. */
public final class ShapeTest {
    private ShapeTest() {
    }

    public static void main(String[] args) {
        //                                                     components, parts, faces, genus, alternating, writhe
        dueShape("o;", 1, 1, 2, 0, 1, 0);
        dueShape("o;o;o;o;", 4, 4, 8, 0, 1, 0);
        dueShape("x1 1 2 2;", 1, 1, 3, 0, 1, 1);
        dueShape("x1 2 2 1;", 1, 1, 3, 0, 1, -1);
        dueShape("x1 2 1 2;", 2, 1, 1, 1, 0, -1);
        dueShape("x1 1 2 2;x3 4 4 3;o;", 3, 3, 8, 0, 1, 0);
        dueShape("x1 4 2 5;x3 6 4 1;x5 2 6 3;", 1, 1, 5, 0, 1, -3);
        dueShape("x1 4 2 5;x3 6 4 1;x5 2 6 3;o;o;", 3, 3, 9, 0, 1, -3);
        dueShape("x4 2 5 1;x8 6 1 5;x6 3 7 4;x2 7 3 8;", 1, 1, 6, 0, 1, 0);
        dueShape("x4 1 3 2;x2 3 1 4;", 2, 1, 4, 0, 1, 2);
        dueShape("x1 3 2 4;x3 1 4 2;", 2, 1, 4, 0, 1, -2);
        dueShape("x1 2 3 4;x1 4 3 2;", 2, 1, 4, 0, 0, 0);
        // The virtual trefoil, in which one passes over twice and then under twice.
        dueShape("x1 3 2 4;x4 2 1 3;", 1, 1, 2, 1, 0, -2);
        // Two kinks in a row: arc 3 goes from over to over.
        dueShape("x1 1 2 3;x2 3 4 4;", 1, 1, 4, 0, 0, 2);
        dueShape("x16 16 9 9;x7 7 3 3;x1 1 2 2;x4 4 5 5;x6 6 8 8;x10 10 11 11;x12 12 13 13;x14 14 15 15;",
                8, 8, 24, 0, 1, 8);
        // 8_19, which is not alternating, and 8_18, which is.
        dueShape("x4 2 5 1;x8 4 9 3;x9 15 10 14;x5 13 6 12;x13 7 14 6;x11 1 12 16;x15 11 16 10;x2 8 3 7;",
                1, 1, 10, 0, 0, 8);
        dueShape("x6 2 7 1;x8 3 9 4;x16 11 1 12;x2 14 3 13;x4 15 5 16;x10 6 11 5;x12 7 13 8;x14 10 15 9;",
                1, 1, 10, 0, 1, 0);
        signs();
        orientation();
        Check.finish();
    }

    private static void dueShape(String text, int components, int parts, int faces, int genus, int alternating,
            int writhe) {
        KnotDiagram d = Check.loaded(text);
        Check.due("componentCount() of " + text, d.componentCount(), components);
        Check.due("partCount() of " + text, d.partCount(), parts);
        Check.due("faceCount() of " + text, d.faceCount(), faces);
        Check.due("genus() of " + text, d.genus(), genus);
        Check.due("isAlternating() of " + text, d.isAlternating(), alternating);
        Check.due("writhe() of " + text, d.writhe(), writhe);
        int sum = 0;
        for (int crossing = 0; crossing < d.crossingCount(); crossing++) {
            sum += d.crossingSign(crossing);
        }
        Check.due("the sum of the signs of " + text, sum, writhe);
    }

    private static void signs() {
        KnotDiagram d = Check.loaded("x4 2 5 1;x8 6 1 5;x6 3 7 4;x2 7 3 8;");
        Check.due("crossingSign(0)", d.crossingSign(0), 1);
        Check.due("crossingSign(1)", d.crossingSign(1), 1);
        Check.due("crossingSign(2)", d.crossingSign(2), -1);
        Check.due("crossingSign(3)", d.crossingSign(3), -1);
        for (int crossing : new int[] {-1, 4, 8, Integer.MIN_VALUE, Integer.MAX_VALUE}) {
            Check.due("crossingSign(" + crossing + ")", d.crossingSign(crossing), Check.BAD);
        }
        Check.due("crossingSign(0) without crossings", new KnotDiagram().crossingSign(0), Check.BAD);
    }

    /** The smallest arc of a component settles its direction: other numbers turn the signs of a link. */
    private static void orientation() {
        // Arc 1 is passed from crossing 0 to 1 and arc 3 from crossing 0 to 1.
        Check.due("writhe()", Check.loaded("x1 3 2 4;x3 1 4 2;").writhe(), -2);
        // The same link with 3 and 4 exchanged: arc 3 now leads out of crossing 0 on the other side.
        Check.due("writhe()", Check.loaded("x1 4 2 3;x4 1 3 2;").writhe(), 2);
        // With 1 and 2 exchanged as well it is as before.
        Check.due("writhe()", Check.loaded("x2 4 1 3;x4 2 3 1;").writhe(), -2);
        // The same link with its crossings in the other order: both components turn round.
        Check.due("writhe()", Check.loaded("x3 1 4 2;x1 3 2 4;").writhe(), -2);
    }
}
