import java.math.BigInteger;
import java.util.ArrayDeque;
import java.util.ArrayList;
import java.util.Deque;
import java.util.HashSet;
import java.util.List;
import java.util.Map;
import java.util.Set;
import java.util.TreeMap;
import java.util.regex.Matcher;
import java.util.regex.Pattern;

/**
 * A second reading of the document, written for plainness and with other means than the class (lists,
 * union-find, polynomials as maps, enumeration of colourings), so that the two can be compared.
 */
final class Model {
    private static final Pattern TOKEN = Pattern.compile("[0-9]+|[^ ]", Pattern.DOTALL);
    private static final Pattern ARC = Pattern.compile("[1-9]|1[0-6]");

    private final StringBuilder text = new StringBuilder();
    private List<int[]> crossings = new ArrayList<>();
    private int circles = 1;
    private final Deque<State> saved = new ArrayDeque<>();
    private final State[] slots = new State[2];

    private record State(List<int[]> crossings, int circles) {
    }

    private static List<int[]> copy(List<int[]> crossings) {
        List<int[]> copies = new ArrayList<>();
        for (int[] crossing : crossings) {
            copies.add(crossing.clone());
        }
        return copies;
    }

    private State present() {
        return new State(copy(crossings), circles);
    }

    private void become(State state) {
        crossings = copy(state.crossings);
        circles = state.circles;
    }

    private void saveForUndo(State before) {
        saved.addLast(before);
        if (saved.size() > 8) {
            saved.removeFirst();
        }
    }

    // ---- text

    int append(int character) {
        if (character < 0 || character > 255) {
            return Check.BAD;
        }
        if (text.length() == 160) {
            return Check.FULL;
        }
        return text.append((char) character).length();
    }

    int clearText() {
        int length = text.length();
        text.setLength(0);
        return length;
    }

    int load() {
        List<Integer> flat = new ArrayList<>();
        int[] found = new int[1];
        int error = read(flat, found);
        if (error >= 0) {
            return -10 - error;
        }
        saveForUndo(present());
        crossings = new ArrayList<>();
        for (int i = 0; i < flat.size(); i += 4) {
            crossings.add(new int[] {flat.get(i), flat.get(i + 1), flat.get(i + 2), flat.get(i + 3)});
        }
        circles = found[0];
        text.setLength(0);
        return crossings.size();
    }

    private int read(List<Integer> flat, int[] found) {
        String expected = "xo";
        int xs = 0;
        Matcher matcher = TOKEN.matcher(text);
        while (matcher.find()) {
            String token = matcher.group();
            boolean isNumber = Character.isDigit(token.charAt(0)) && token.charAt(0) < 128;
            if (isNumber) {
                boolean wanted = expected.equals("n");
                if (!wanted || !ARC.matcher(token).matches() || count(flat, Integer.parseInt(token)) == 2) {
                    return matcher.start();
                }
                flat.add(Integer.parseInt(token));
                expected = flat.size() % 4 == 0 ? ";" : "n";
            } else if (!expected.contains(token) || expected.equals("n")) {
                return matcher.start();
            } else if (token.equals("x")) {
                if (++xs > 8) {
                    return matcher.start();
                }
                expected = "n";
            } else if (token.equals("o")) {
                if (++found[0] > 4) {
                    return matcher.start();
                }
                expected = ";";
            } else {
                expected = "xo";
            }
        }
        boolean once = false;
        for (int arc : flat) {
            once |= count(flat, arc) == 1;
        }
        return !expected.equals("xo") || xs + found[0] == 0 || once ? text.length() : -1;
    }

    private static int count(List<Integer> flat, int arc) {
        int count = 0;
        for (int other : flat) {
            count += other == arc ? 1 : 0;
        }
        return count;
    }

    // ---- diagram

    int crossingCount() {
        return crossings.size();
    }

    int circleCount() {
        return circles;
    }

    private boolean isCrossing(int crossing) {
        return crossing >= 0 && crossing < crossings.size();
    }

    int arcAt(int crossing, int end) {
        return isCrossing(crossing) && end >= 0 && end <= 3 ? crossings.get(crossing)[end] : Check.BAD;
    }

    private void exchange(int crossing) {
        int[] old = crossings.get(crossing);
        crossings.set(crossing, new int[] {old[1], old[2], old[3], old[0]});
    }

    int switchCrossing(int crossing) {
        if (!isCrossing(crossing)) {
            return Check.BAD;
        }
        saveForUndo(present());
        exchange(crossing);
        return signs()[crossing];
    }

    int mirror() {
        if (crossings.isEmpty()) {
            return Check.STATE;
        }
        saveForUndo(present());
        for (int crossing = 0; crossing < crossings.size(); crossing++) {
            exchange(crossing);
        }
        return writhe();
    }

    // ---- moves: an end that has gone carries 0

    private void join(int[] one, int k, int[] other, int m) {
        int a = one[k];
        int b = other[m];
        one[k] = 0;
        other[m] = 0;
        if (a == b) {
            circles++;
            return;
        }
        for (int[] crossing : crossings) {
            for (int end = 0; end < 4; end++) {
                if (crossing[end] == a || crossing[end] == b) {
                    crossing[end] = a < b ? a : b;
                }
            }
        }
    }

    private int finish(State before, int[]... removed) {
        for (int[] crossing : removed) {
            crossings.removeIf(c -> c == crossing);
        }
        if (circles > 4) {
            become(before);
            return Check.FULL;
        }
        saveForUndo(before);
        return crossings.size();
    }

    int removeKink(int crossing) {
        if (!isCrossing(crossing)) {
            return Check.BAD;
        }
        State before = present();
        int[] c = crossings.get(crossing);
        for (int k = 0; k < 4; k++) {
            if (c[k] == c[(k + 1) % 4]) {
                c[k] = 0;
                c[(k + 1) % 4] = 0;
                join(c, (k + 2) % 4, c, (k + 3) % 4);
                return finish(before, c);
            }
        }
        return Check.STATE;
    }

    int isKink(int crossing) {
        if (!isCrossing(crossing)) {
            return Check.BAD;
        }
        int[] c = crossings.get(crossing);
        return c[0] == c[1] || c[1] == c[2] || c[2] == c[3] || c[3] == c[0] ? 1 : 0;
    }

    private static int[] bigon(int[] x, int[] y) {
        for (int i = 0; i < 4; i++) {
            for (int j = 0; j < 4; j++) {
                if (x[i] == y[(j + 1) % 4] && x[(i + 1) % 4] == y[j] && (i + j) % 2 == 1) {
                    return new int[] {i, j};
                }
            }
        }
        return null;
    }

    int removeBigon(int x, int y) {
        if (!isCrossing(x) || !isCrossing(y) || x == y) {
            return Check.BAD;
        }
        int[] cx = crossings.get(x);
        int[] cy = crossings.get(y);
        int[] at = bigon(cx, cy);
        if (at == null) {
            return Check.STATE;
        }
        State before = present();
        int i = at[0];
        int j = at[1];
        cx[i] = 0;
        cx[(i + 1) % 4] = 0;
        cy[j] = 0;
        cy[(j + 1) % 4] = 0;
        join(cx, (i + 2) % 4, cy, (j + 3) % 4);
        join(cx, (i + 3) % 4, cy, (j + 2) % 4);
        return finish(before, cx, cy);
    }

    int bigonPartner(int crossing) {
        if (!isCrossing(crossing)) {
            return Check.BAD;
        }
        for (int y = 0; y < crossings.size(); y++) {
            if (y != crossing && bigon(crossings.get(crossing), crossings.get(y)) != null) {
                return y;
            }
        }
        return Check.NONE;
    }

    // ---- shape

    /** Union-find over small numbers. */
    private static final class Unions {
        private final Map<Integer, Integer> parents = new TreeMap<>();

        int find(int number) {
            int parent = parents.computeIfAbsent(number, n -> n);
            return parent == number ? number : find(parent);
        }

        void unite(int one, int other) {
            parents.put(find(one), find(other));
        }

        int classes() {
            Set<Integer> roots = new HashSet<>();
            for (int number : parents.keySet().toArray(new Integer[0])) {
                roots.add(find(number));
            }
            return roots.size();
        }
    }

    int componentCount() {
        Unions arcs = new Unions();
        for (int[] c : crossings) {
            arcs.unite(c[0], c[2]);
            arcs.unite(c[1], c[3]);
        }
        return arcs.classes() + circles;
    }

    int partCount() {
        // A crossing is united with its arcs, which are numbered from 100 on.
        Unions parts = new Unions();
        for (int crossing = 0; crossing < crossings.size(); crossing++) {
            for (int arc : crossings.get(crossing)) {
                parts.unite(crossing, 100 + arc);
            }
        }
        return parts.classes() + circles;
    }

    /** The other end of the arc, as {crossing, end}. */
    private int[] follow(int crossing, int end) {
        int arc = crossings.get(crossing)[end];
        for (int c = 0; c < crossings.size(); c++) {
            for (int e = 0; e < 4; e++) {
                if (crossings.get(c)[e] == arc && (c != crossing || e != end)) {
                    return new int[] {c, e};
                }
            }
        }
        throw new IllegalStateException("an arc with one end");
    }

    int faceCount() {
        Unions faces = new Unions();
        for (int crossing = 0; crossing < crossings.size(); crossing++) {
            for (int end = 0; end < 4; end++) {
                int[] other = follow(crossing, end);
                faces.unite(4 * crossing + end, 4 * other[0] + (other[1] + 1) % 4);
            }
        }
        return faces.classes() + 2 * circles;
    }

    int genus() {
        int twice = crossings.size() + 2 * partCount() - faceCount();
        if (twice % 2 != 0 || twice < 0) {
            throw new IllegalStateException("no genus");
        }
        return twice / 2;
    }

    int isAlternating() {
        for (int crossing = 0; crossing < crossings.size(); crossing++) {
            for (int end = 0; end < 4; end++) {
                if (follow(crossing, end)[1] % 2 == end % 2) {
                    return 0;
                }
            }
        }
        return 1;
    }

    /** The signs of all crossings. */
    private int[] signs() {
        int n = crossings.size();
        // The end at which the under strand, and the over strand, is entered; -1 as long as it is unknown.
        int[] under = new int[n];
        int[] over = new int[n];
        java.util.Arrays.fill(under, -1);
        java.util.Arrays.fill(over, -1);
        Set<Integer> done = new HashSet<>();
        for (int arc = 1; arc <= 16; arc++) {
            int[] first = firstEnd(arc);
            if (first == null || done.contains(arc)) {
                continue;
            }
            int[] into = follow(first[0], first[1]);
            int passed = arc;
            while (done.add(passed)) {
                if (into[1] % 2 == 0) {
                    under[into[0]] = into[1];
                } else {
                    over[into[0]] = into[1];
                }
                int out = (into[1] + 2) % 4;
                passed = crossings.get(into[0])[out];
                into = follow(into[0], out);
            }
        }
        int[] signs = new int[n];
        for (int c = 0; c < n; c++) {
            signs[c] = under[c] == 0 && over[c] == 3 || under[c] == 2 && over[c] == 1 ? 1 : -1;
        }
        return signs;
    }

    private int[] firstEnd(int arc) {
        for (int c = 0; c < crossings.size(); c++) {
            for (int e = 0; e < 4; e++) {
                if (crossings.get(c)[e] == arc) {
                    return new int[] {c, e};
                }
            }
        }
        return null;
    }

    int crossingSign(int crossing) {
        return isCrossing(crossing) ? signs()[crossing] : Check.BAD;
    }

    int writhe() {
        int sum = 0;
        for (int sign : signs()) {
            sum += sign;
        }
        return sum;
    }

    // ---- bracket

    int stateLoops(int state) {
        if (state < 0 || state >= Math.pow(2, crossings.size())) {
            return Check.BAD;
        }
        Unions arcs = new Unions();
        for (int c = 0; c < crossings.size(); c++) {
            int[] arc = crossings.get(c);
            if ((state >> c) % 2 == 0) {
                arcs.unite(arc[0], arc[1]);
                arcs.unite(arc[2], arc[3]);
            } else {
                arcs.unite(arc[0], arc[3]);
                arcs.unite(arc[1], arc[2]);
            }
        }
        return arcs.classes() + circles;
    }

    TreeMap<Integer, BigInteger> bracket() {
        List<TreeMap<Integer, BigInteger>> powers = new ArrayList<>();
        powers.add(new TreeMap<>(Map.of(0, BigInteger.ONE)));
        TreeMap<Integer, BigInteger> sum = new TreeMap<>();
        int n = crossings.size();
        for (int state = 0; state < 1 << n; state++) {
            int loops = stateLoops(state);
            while (powers.size() < loops) {
                TreeMap<Integer, BigInteger> next = new TreeMap<>();
                powers.get(powers.size() - 1).forEach((e, c) -> {
                    next.merge(e + 2, c.negate(), BigInteger::add);
                    next.merge(e - 2, c.negate(), BigInteger::add);
                });
                powers.add(next);
            }
            int bs = Integer.bitCount(state);
            int shift = n - bs - bs;
            powers.get(loops - 1).forEach((e, c) -> sum.merge(e + shift, c, BigInteger::add));
        }
        sum.values().removeIf(c -> c.signum() == 0);
        return sum;
    }

    /** The normalized bracket, multiplied out factor by factor. */
    TreeMap<Integer, BigInteger> normalized() {
        TreeMap<Integer, BigInteger> product = bracket();
        int writhe = writhe();
        for (int i = 0; i < Math.abs(writhe); i++) {
            TreeMap<Integer, BigInteger> next = new TreeMap<>();
            product.forEach((e, c) -> next.put(writhe > 0 ? e - 3 : e + 3, c.negate()));
            product = next;
        }
        return product;
    }

    int coefficient(int exponent) {
        return Math.abs((long) exponent) > 60 ? Check.BAD : at(bracket(), exponent);
    }

    int normalizedCoefficient(int exponent) {
        return Math.abs((long) exponent) > 60 ? Check.BAD : at(normalized(), exponent);
    }

    private static int at(Map<Integer, BigInteger> polynomial, int exponent) {
        return polynomial.getOrDefault(exponent, BigInteger.ZERO).intValueExact();
    }

    int lowestExponent() {
        TreeMap<Integer, BigInteger> bracket = bracket();
        return bracket.isEmpty() ? Check.NONE : bracket.firstKey();
    }

    int highestExponent() {
        TreeMap<Integer, BigInteger> bracket = bracket();
        return bracket.isEmpty() ? Check.NONE : bracket.lastKey();
    }

    int determinant() {
        TreeMap<Integer, BigInteger> bracket = bracket();
        long sum = 0;
        if (!bracket.isEmpty()) {
            int lowest = bracket.firstKey();
            for (int k = 0; lowest + 4 * k <= bracket.lastKey(); k++) {
                sum += (k % 2 == 0 ? 1 : -1) * at(bracket, lowest + 4 * k);
            }
        }
        return (int) Math.abs(sum);
    }

    // ---- colourings

    int colouringDimension(int p) {
        if (!Set.of(3, 5, 7, 11).contains(p)) {
            return Check.BAD;
        }
        Unions arcs = new Unions();
        for (int[] c : crossings) {
            arcs.unite(c[1], c[3]);
            arcs.find(c[0]);
            arcs.find(c[2]);
        }
        TreeMap<Integer, Integer> columns = new TreeMap<>();
        for (int[] c : crossings) {
            for (int arc : c) {
                columns.putIfAbsent(arcs.find(arc), columns.size());
            }
        }
        List<int[]> equations = new ArrayList<>();
        for (int[] c : crossings) {
            equations.add(new int[] {columns.get(arcs.find(c[0])), columns.get(arcs.find(c[2])),
                    columns.get(arcs.find(c[1]))});
        }
        long count = colourings(equations, new int[columns.size()], 0, p);
        int dimension = 0;
        while (count > 1) {
            if (count % p != 0) {
                throw new IllegalStateException("no power of " + p);
            }
            count /= p;
            dimension++;
        }
        return dimension + circles;
    }

    /** Counts the colourings in which the first colours are those given, by trying all others. */
    private static long colourings(List<int[]> equations, int[] colours, int given, int p) {
        for (int[] e : equations) {
            boolean known = Math.max(e[0], Math.max(e[1], e[2])) < given;
            if (known && (colours[e[0]] + colours[e[1]] - 2 * colours[e[2]]) % p != 0) {
                return 0;
            }
        }
        if (given == colours.length) {
            return 1;
        }
        long count = 0;
        for (int colour = 0; colour < p; colour++) {
            colours[given] = colour;
            count += colourings(equations, colours, given + 1, p);
        }
        return count;
    }

    // ---- undo and snapshots

    int undo() {
        if (saved.isEmpty()) {
            return Check.STATE;
        }
        become(saved.removeLast());
        return saved.size();
    }

    int undoDepth() {
        return saved.size();
    }

    int save(int slot) {
        if (slot != 0 && slot != 1) {
            return Check.BAD;
        }
        slots[slot] = present();
        return crossings.size();
    }

    int restore(int slot) {
        if (slot != 0 && slot != 1) {
            return Check.BAD;
        }
        if (slots[slot] == null) {
            return Check.STATE;
        }
        become(slots[slot]);
        saved.clear();
        return crossings.size();
    }
}
