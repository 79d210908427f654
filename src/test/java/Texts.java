/** Texts of diagrams that several tests use. */
final class Texts {
    static final String KINK = "x1 1 2 2;";
    static final String TREFOIL = "x1 4 2 5;x3 6 4 1;x5 2 6 3;";
    static final String HOPF = "x4 1 3 2;x2 3 1 4;";
    /** Two rings, one lying on the other: all four arcs are sides of bigons. */
    static final String RINGS = "x1 2 3 4;x1 4 3 2;";
    /** Two closed curves that cross once, which cannot be drawn in the plane. */
    static final String VIRTUAL = "x1 2 1 2;";
    static final String EIGHT_KINKS = kinks(8);

    private Texts() {
    }

    /** So many kinks, each of them a part of its own, with the sign 1 and the arcs 1 and 2, 3 and 4, ... */
    static String kinks(int crossings) {
        return apart(crossings, 0, 0, 1, 1);
    }

    /** So many times VIRTUAL. */
    static String virtuals(int crossings) {
        return apart(crossings, 0, 1, 0, 1);
    }

    static String circles(int circles) {
        return "o;".repeat(circles);
    }

    /** Crossings apart, whose ends carry one arc (0) or the other one (1). */
    static String apart(int crossings, int... ends) {
        StringBuilder text = new StringBuilder();
        for (int crossing = 0; crossing < crossings; crossing++) {
            char before = 'x';
            for (int end : ends) {
                text.append(before).append(2 * crossing + 1 + end);
                before = ' ';
            }
            text.append(';');
        }
        return text.toString();
    }
}
