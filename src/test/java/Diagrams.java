import java.util.ArrayList;
import java.util.List;

/** Makes texts of diagrams, the same ones in every run. */
final class Diagrams {
    private long seed;

    Diagrams(long seed) {
        this.seed = seed;
    }

    /** A number from 0 to below the bound, of a linear congruential sequence. */
    int below(int bound) {
        seed = seed * 6364136223846793005L + 1442695040888963407L;
        return (int) Math.floorMod(seed >>> 33, (long) bound);
    }

    /** A diagram whose ends are joined at random: most of them cannot be drawn in the plane. */
    String anyText(int most) {
        int crossings = below(most + 1);
        List<Integer> ends = new ArrayList<>();
        List<Integer> arcs = arcNumbers();
        for (int k = 0; k < 2 * crossings; k++) {
            ends.add(arcs.get(k));
            ends.add(arcs.get(k));
        }
        shuffle(ends);
        return text(ends, below(crossings == 0 ? 4 : 5) + (crossings == 0 ? 1 : 0));
    }

    /** A diagram to which kinks and bigons have been added, so that there is much to remove. */
    String tangledText() {
        List<Integer> ends = new ArrayList<>();
        int next = 1;
        int crossings = 1 + below(3);
        for (int k = 0; k < 2 * crossings; k++) {
            ends.add(next);
            ends.add(next++);
        }
        shuffle(ends);
        while (ends.size() < 32 && below(6) != 0) {
            if (ends.size() == 28 || below(2) == 0) {
                next = addKink(ends, next);
            } else {
                next = addBigon(ends, next);
            }
        }
        List<Integer> arcs = arcNumbers();
        for (int e = 0; e < ends.size(); e++) {
            ends.set(e, arcs.get(ends.get(e) - 1));
        }
        return text(ends, below(5));
    }

    /** Cuts the arc at an end: there it gets a new number. Returns the old one. */
    private int cut(List<Integer> ends, int next) {
        int end = below(ends.size());
        int arc = ends.get(end);
        ends.set(end, next);
        return arc;
    }

    private int addKink(List<Integer> ends, int next) {
        int arc = cut(ends, next);
        Integer[] crossing = new Integer[4];
        int k = below(4);
        crossing[k] = next + 1;
        crossing[(k + 1) % 4] = next + 1;
        crossing[(k + 2) % 4] = arc;
        crossing[(k + 3) % 4] = next;
        ends.addAll(List.of(crossing));
        return next + 2;
    }

    private int addBigon(List<Integer> ends, int next) {
        int one = cut(ends, next);
        int other = cut(ends, next + 1);
        Integer[] x = new Integer[4];
        Integer[] y = new Integer[4];
        int i = below(4);
        int j = (i + 1 + 2 * below(2)) % 4;
        x[i] = next + 2;
        y[(j + 1) % 4] = next + 2;
        x[(i + 1) % 4] = next + 3;
        y[j] = next + 3;
        x[(i + 2) % 4] = one;
        y[(j + 3) % 4] = next;
        x[(i + 3) % 4] = other;
        y[(j + 2) % 4] = next + 1;
        ends.addAll(List.of(x));
        ends.addAll(below(2) == 0 ? ends.size() : 0, List.of(y));
        return next + 4;
    }

    private List<Integer> arcNumbers() {
        List<Integer> arcs = new ArrayList<>();
        for (int arc = 1; arc <= 16; arc++) {
            arcs.add(arc);
        }
        shuffle(arcs);
        return arcs;
    }

    private void shuffle(List<Integer> numbers) {
        for (int k = numbers.size() - 1; k > 0; k--) {
            int other = below(k + 1);
            int number = numbers.get(k);
            numbers.set(k, numbers.get(other));
            numbers.set(other, number);
        }
    }

    private String text(List<Integer> ends, int circles) {
        StringBuilder text = new StringBuilder();
        int left = circles;
        for (int e = 0; e < ends.size(); e += 4) {
            while (left > 0 && below(4) == 0) {
                text.append("o;");
                left--;
            }
            text.append('x').append(ends.get(e));
            for (int k = 1; k < 4; k++) {
                text.append(below(9) == 0 ? "  " : " ").append(ends.get(e + k));
            }
            text.append(';');
        }
        return text.append("o;".repeat(left)).toString();
    }

    /** A text in which something is likely to be wrong. */
    String spoiltText() {
        StringBuilder text = new StringBuilder(below(2) == 0 ? anyText(8) : tangledText());
        for (int k = below(3); k >= 0 && text.length() > 0; k--) {
            int at = below(text.length());
            String signs = "xo;  0123456789Xy,\u00a0\u00ff\t\u0000";
            switch (below(3)) {
                case 0 -> text.setCharAt(at, signs.charAt(below(signs.length())));
                case 1 -> text.insert(at, signs.charAt(below(signs.length())));
                default -> text.deleteCharAt(at);
            }
        }
        return text.toString();
    }
}
