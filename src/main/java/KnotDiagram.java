/**
 * An analyzer for knot and link diagrams given by planar diagram codes. What each method promises
 * stands in ../shared/DOC.md.
 *
 * <p>An end of a crossing is held as one number, 4 * crossing + end. So a set of ends fits into the
 * 32 bits of an int, the end opposite to e is e ^ 2, and the crossing of e is e >> 2.
 */
public final class KnotDiagram {
    public static final int INVALID_ARGUMENT = -1000001;
    public static final int ILLEGAL_STATE = -1000002;
    public static final int CAPACITY_EXCEEDED = -1000003;
    public static final int NONE = -1000009;

    private static final int MOST_CROSSINGS = 8;
    private static final int MOST_CIRCLES = 4;
    private static final int MOST_ENDS = 4 * MOST_CROSSINGS;
    private static final int MOST_ARCS = 2 * MOST_CROSSINGS;
    private static final int MOST_CHARACTERS = 160;
    private static final int LAST_CHARACTER = 255;
    private static final int WIDEST_EXPONENT = 60;
    private static final int DEEPEST_UNDO = 8;
    private static final int SLOTS = 2;
    private static final int FIRST_ERROR_ANSWER = -10;

    private final Text text;
    private final Reader reader;
    private final Diagram diagram;
    // A change that may still be refused is drawn up here, so that a refusal leaves no trace.
    private final Diagram draft;
    private final Shelf shelf;
    private final Bracket bracket;
    private final Colouring colouring;
    private int savedStates;
    private int newestPlace;

    public KnotDiagram() {
        text = new Text();
        reader = new Reader();
        diagram = new Diagram();
        draft = new Diagram();
        shelf = new Shelf();
        bracket = new Bracket();
        colouring = new Colouring();
        diagram.circles = 1;
    }

    // ---- input text

    public int append(int character) {
        if (character < 0 || character > LAST_CHARACTER) {
            return INVALID_ARGUMENT;
        }
        if (text.length >= MOST_CHARACTERS) {
            return CAPACITY_EXCEEDED;
        }
        text.add(character);
        return text.length;
    }

    public int clearText() {
        int length = text.length;
        text.length = 0;
        return length;
    }

    public int load() {
        int error = reader.read(text, draft);
        if (error >= 0) {
            return FIRST_ERROR_ANSWER - error;
        }
        becomeDraft();
        text.length = 0;
        return diagram.crossings;
    }

    // ---- diagram

    public int crossingCount() {
        return diagram.crossings;
    }

    public int circleCount() {
        return diagram.circles;
    }

    public int arcAt(int crossing, int end) {
        if (!diagram.hasCrossing(crossing) || end < 0 || end > 3) {
            return INVALID_ARGUMENT;
        }
        return diagram.arc(4 * crossing + end);
    }

    // ---- changes

    public int switchCrossing(int crossing) {
        if (!diagram.hasCrossing(crossing)) {
            return INVALID_ARGUMENT;
        }
        draft.copyFrom(diagram);
        draft.exchangeStrands(crossing);
        becomeDraft();
        return Strands.sign(crossing, Strands.enteredEnds(diagram));
    }

    public int mirror() {
        if (diagram.crossings == 0) {
            return ILLEGAL_STATE;
        }
        draft.copyFrom(diagram);
        int crossings = draft.crossings;
        for (int crossing = 0; crossing < crossings; crossing++) {
            draft.exchangeStrands(crossing);
        }
        becomeDraft();
        return Strands.signSum(diagram);
    }

    public int removeKink(int crossing) {
        if (!diagram.hasCrossing(crossing)) {
            return INVALID_ARGUMENT;
        }
        int k = Moves.kinkEnd(diagram, crossing);
        if (k < 0) {
            return ILLEGAL_STATE;
        }
        draft.copyFrom(diagram);
        Moves.dissolveKink(draft, crossing, k);
        return finishRemoval();
    }

    public int removeBigon(int x, int y) {
        if (!diagram.hasCrossing(x) || !diagram.hasCrossing(y) || x == y) {
            return INVALID_ARGUMENT;
        }
        int corner = Moves.bigonCorner(diagram, x, y);
        if (corner < 0) {
            return ILLEGAL_STATE;
        }
        draft.copyFrom(diagram);
        Moves.dissolveBigon(draft, x, y, corner);
        return finishRemoval();
    }

    public int isKink(int crossing) {
        if (!diagram.hasCrossing(crossing)) {
            return INVALID_ARGUMENT;
        }
        return Moves.kinkEnd(diagram, crossing) < 0 ? 0 : 1;
    }

    public int bigonPartner(int crossing) {
        if (!diagram.hasCrossing(crossing)) {
            return INVALID_ARGUMENT;
        }
        int crossings = diagram.crossings;
        for (int y = 0; y < crossings; y++) {
            if (y != crossing && Moves.bigonCorner(diagram, crossing, y) >= 0) {
                return y;
            }
        }
        return NONE;
    }

    // ---- shape

    public int componentCount() {
        return Strands.count(diagram) + diagram.circles;
    }

    public int partCount() {
        return Shape.crossingParts(diagram) + diagram.circles;
    }

    public int faceCount() {
        return Shape.endCycles(diagram) + 2 * diagram.circles;
    }

    public int genus() {
        return (diagram.crossings + 2 * partCount() - faceCount()) / 2;
    }

    public int isAlternating() {
        return Shape.alternates(diagram) ? 1 : 0;
    }

    public int crossingSign(int crossing) {
        if (!diagram.hasCrossing(crossing)) {
            return INVALID_ARGUMENT;
        }
        return Strands.sign(crossing, Strands.enteredEnds(diagram));
    }

    public int writhe() {
        return Strands.signSum(diagram);
    }

    // ---- bracket

    public int stateLoops(int state) {
        if (state < 0 || state >= 1 << diagram.crossings) {
            return INVALID_ARGUMENT;
        }
        return bracket.loops(diagram, state);
    }

    public int coefficient(int exponent) {
        if (!isExponent(exponent)) {
            return INVALID_ARGUMENT;
        }
        bracket.prepare(diagram);
        return bracket.at(exponent);
    }

    public int normalizedCoefficient(int exponent) {
        if (!isExponent(exponent)) {
            return INVALID_ARGUMENT;
        }
        bracket.prepare(diagram);
        // The factor (-A^3)^(-w) is (-1)^w * A^(-3w).
        int turns = Strands.signSum(diagram);
        int value = bracket.at(exponent + 3 * turns);
        return (turns & 1) == 0 ? value : -value;
    }

    public int lowestExponent() {
        bracket.prepare(diagram);
        return bracket.lowest();
    }

    public int highestExponent() {
        bracket.prepare(diagram);
        return bracket.highest();
    }

    public int determinant() {
        bracket.prepare(diagram);
        return bracket.alternatingSum();
    }

    // ---- colourings

    public int colouringDimension(int p) {
        if (p != 3 && p != 5 && p != 7 && p != 11) {
            return INVALID_ARGUMENT;
        }
        return colouring.dimension(diagram, p);
    }

    // ---- undo and snapshots

    public int undo() {
        if (savedStates == 0) {
            return ILLEGAL_STATE;
        }
        shelf.fetch(newestPlace, diagram);
        bracket.forget();
        newestPlace = (newestPlace + DEEPEST_UNDO - 1) % DEEPEST_UNDO;
        savedStates--;
        return savedStates;
    }

    public int undoDepth() {
        return savedStates;
    }

    public int save(int slot) {
        if (!isSlot(slot)) {
            return INVALID_ARGUMENT;
        }
        shelf.keep(DEEPEST_UNDO + slot, diagram);
        return diagram.crossings;
    }

    public int restore(int slot) {
        if (!isSlot(slot)) {
            return INVALID_ARGUMENT;
        }
        if (!shelf.holds(DEEPEST_UNDO + slot)) {
            return ILLEGAL_STATE;
        }
        shelf.fetch(DEEPEST_UNDO + slot, diagram);
        bracket.forget();
        savedStates = 0;
        return diagram.crossings;
    }

    // ---- what the methods share

    private static boolean isExponent(int exponent) {
        return exponent >= -WIDEST_EXPONENT && exponent <= WIDEST_EXPONENT;
    }

    private static boolean isSlot(int slot) {
        return slot >= 0 && slot < SLOTS;
    }

    /** Takes the draft, from which crossings were removed, unless it has too many circles. */
    private int finishRemoval() {
        if (draft.circles > MOST_CIRCLES) {
            return CAPACITY_EXCEEDED;
        }
        becomeDraft();
        return diagram.crossings;
    }

    /** Saves the present state for undo() and takes the draft in its place. */
    private void becomeDraft() {
        newestPlace = (newestPlace + 1) % DEEPEST_UNDO;
        shelf.keep(newestPlace, diagram);
        savedStates = Math.min(savedStates + 1, DEEPEST_UNDO);
        diagram.copyFrom(draft);
        bracket.forget();
    }

    private static int bit(int number) {
        return 1 << number;
    }

    /** Tells whether a number, 0 to 31, is in a set that is held as the bits of an int. */
    private static boolean contains(int set, int number) {
        return ((set >>> number) & 1) != 0;
    }

    /** The crossings with the arcs at their ends, and the circles. */
    private static final class Diagram {
        int crossings;
        int circles;
        final int[] arcs = new int[MOST_ENDS];

        boolean hasCrossing(int crossing) {
            return crossing >= 0 && crossing < crossings;
        }

        int endCount() {
            return 4 * crossings;
        }

        int arc(int end) {
            return end >= 0 && end < MOST_ENDS ? arcs[end] : 0;
        }

        void setArc(int end, int arc) {
            if (end >= 0 && end < MOST_ENDS) {
                arcs[end] = arc;
            }
        }

        void clear() {
            crossings = 0;
            circles = 0;
            for (int end = 0; end < MOST_ENDS; end++) {
                arcs[end] = 0;
            }
        }

        void copyFrom(Diagram other) {
            crossings = other.crossings;
            circles = other.circles;
            for (int end = 0; end < MOST_ENDS; end++) {
                arcs[end] = other.arcs[end];
            }
        }

        int occurrences(int arc) {
            int count = 0;
            int ends = endCount();
            for (int end = 0; end < ends; end++) {
                if (arc(end) == arc) {
                    count++;
                }
            }
            return count;
        }

        /** The first end that carries the arc, or -1. */
        int firstEnd(int arc) {
            int ends = endCount();
            for (int end = 0; end < ends; end++) {
                if (arc(end) == arc) {
                    return end;
                }
            }
            return -1;
        }

        /** The other end that the arc at this end joins. */
        int otherEnd(int end) {
            int arc = arc(end);
            int ends = endCount();
            for (int other = 0; other < ends; other++) {
                if (other != end && arc(other) == arc) {
                    return other;
                }
            }
            return end;
        }

        void exchangeStrands(int crossing) {
            int base = 4 * crossing;
            int first = arc(base);
            setArc(base, arc(base + 1));
            setArc(base + 1, arc(base + 2));
            setArc(base + 2, arc(base + 3));
            setArc(base + 3, first);
        }

        /** Joins the arcs at two ends of crossings that are about to be dropped. */
        void join(int oneEnd, int otherEnd) {
            int one = arc(oneEnd);
            int other = arc(otherEnd);
            if (one == other) {
                circles++;
                return;
            }
            int greater = Math.max(one, other);
            int ends = endCount();
            for (int end = 0; end < ends; end++) {
                if (arc(end) == greater) {
                    setArc(end, Math.min(one, other));
                }
            }
        }

        void drop(int crossing) {
            int ends = endCount();
            for (int end = 4 * crossing; end < ends; end++) {
                setArc(end, arc(end + 4));
            }
            crossings--;
        }
    }

    /** The characters of the input text. */
    private static final class Text {
        private final int[] characters = new int[MOST_CHARACTERS];
        int length;

        void add(int character) {
            if (length >= 0 && length < MOST_CHARACTERS) {
                characters[length] = character;
                length++;
            }
        }

        /** The character at an offset, or -1 where the text has none. */
        int character(int offset) {
            return offset >= 0 && offset < length && offset < MOST_CHARACTERS ? characters[offset] : -1;
        }

        boolean isDigit(int offset) {
            int character = character(offset);
            return character >= '0' && character <= '9';
        }

        boolean startsToken(int offset) {
            if (isDigit(offset)) {
                return !isDigit(offset - 1);
            }
            return character(offset) != ' ';
        }

        /** The arc that the run of digits at an offset is, or 0 if it is none. */
        int arcFrom(int offset) {
            int digit = character(offset) - '0';
            if (!isDigit(offset) || digit == 0) {
                return 0;
            }
            if (!isDigit(offset + 1)) {
                return digit;
            }
            int number = 10 * digit + character(offset + 1) - '0';
            return isDigit(offset + 2) || number > MOST_ARCS ? 0 : number;
        }
    }

    /** Reads a text, token by token, into a diagram. */
    private static final class Reader {
        private boolean insideStatement;
        private int arcsDue;

        /** Fills the diagram from the text; returns the error position, or -1 if there is no error. */
        int read(Text text, Diagram diagram) {
            diagram.clear();
            insideStatement = false;
            arcsDue = 0;
            int length = text.length;
            for (int offset = 0; offset < length; offset++) {
                if (text.startsToken(offset) && !takeToken(text, offset, diagram)) {
                    return offset;
                }
            }
            return isWhole(diagram) ? -1 : text.length;
        }

        private boolean takeToken(Text text, int offset, Diagram diagram) {
            switch (text.character(offset)) {
                case 'x':
                    return takeCrossing(diagram);
                case 'o':
                    return takeCircle(diagram);
                case ';':
                    return takeSemicolon();
                default:
                    return takeArc(text.arcFrom(offset), diagram);
            }
        }

        private boolean takeCrossing(Diagram diagram) {
            if (insideStatement || diagram.crossings >= MOST_CROSSINGS) {
                return false;
            }
            insideStatement = true;
            arcsDue = 4;
            diagram.crossings++;
            return true;
        }

        private boolean takeCircle(Diagram diagram) {
            if (insideStatement || diagram.circles >= MOST_CIRCLES) {
                return false;
            }
            insideStatement = true;
            diagram.circles++;
            return true;
        }

        private boolean takeSemicolon() {
            if (!insideStatement || arcsDue > 0) {
                return false;
            }
            insideStatement = false;
            return true;
        }

        private boolean takeArc(int arc, Diagram diagram) {
            if (arc == 0 || arcsDue == 0 || diagram.occurrences(arc) >= 2) {
                return false;
            }
            diagram.setArc(diagram.endCount() - arcsDue, arc);
            arcsDue--;
            return true;
        }

        private boolean isWhole(Diagram diagram) {
            if (insideStatement || diagram.crossings + diagram.circles == 0) {
                return false;
            }
            int ends = diagram.endCount();
            for (int end = 0; end < ends; end++) {
                if (diagram.occurrences(diagram.arc(end)) != 2) {
                    return false;
                }
            }
            return true;
        }
    }

    /** Copies of states: the places of the saved states, then those of the snapshots. */
    private static final class Shelf {
        private static final int PLACES = DEEPEST_UNDO + SLOTS;
        private static final int CELLS = MOST_ENDS + 2;

        private final int[] cells = new int[PLACES * CELLS];
        private final boolean[] filled = new boolean[PLACES];

        boolean holds(int place) {
            return place >= 0 && place < PLACES && filled[place];
        }

        void keep(int place, Diagram diagram) {
            if (place < 0 || place >= PLACES) {
                return;
            }
            int base = place * CELLS;
            for (int end = 0; end < MOST_ENDS; end++) {
                cells[base + end] = diagram.arc(end);
            }
            cells[base + MOST_ENDS] = diagram.crossings;
            cells[base + MOST_ENDS + 1] = diagram.circles;
            filled[place] = true;
        }

        void fetch(int place, Diagram diagram) {
            if (!holds(place)) {
                return;
            }
            int base = place * CELLS;
            for (int end = 0; end < MOST_ENDS; end++) {
                diagram.setArc(end, cells[base + end]);
            }
            diagram.crossings = cells[base + MOST_ENDS];
            diagram.circles = cells[base + MOST_ENDS + 1];
        }
    }

    /** Kinks and bigons: where they are, and how they go. */
    private static final class Moves {
        /** The end of a crossing that is reached from its end 0 by so many steps counterclockwise. */
        private static int endOf(int crossing, int steps) {
            return 4 * crossing + (steps & 3);
        }

        /** The smallest k for which an arc joins the ends k and k + 1, or -1. */
        static int kinkEnd(Diagram diagram, int crossing) {
            for (int k = 0; k < 4; k++) {
                if (diagram.arc(endOf(crossing, k)) == diagram.arc(endOf(crossing, k + 1))) {
                    return k;
                }
            }
            return -1;
        }

        /** 4 * i + j for the smallest i, and for it the smallest j, of a bigon, or -1. */
        static int bigonCorner(Diagram diagram, int x, int y) {
            for (int corner = 0; corner < 16; corner++) {
                if (isBigon(diagram, x, corner >> 2, y, corner & 3)) {
                    return corner;
                }
            }
            return -1;
        }

        private static boolean isBigon(Diagram diagram, int x, int i, int y, int j) {
            return ((i + j) & 1) == 1
                    && diagram.arc(endOf(x, i)) == diagram.arc(endOf(y, j + 1))
                    && diagram.arc(endOf(x, i + 1)) == diagram.arc(endOf(y, j));
        }

        static void dissolveKink(Diagram diagram, int crossing, int k) {
            diagram.join(endOf(crossing, k + 2), endOf(crossing, k + 3));
            diagram.drop(crossing);
        }

        static void dissolveBigon(Diagram diagram, int x, int y, int corner) {
            int i = corner >> 2;
            int j = corner & 3;
            diagram.join(endOf(x, i + 2), endOf(y, j + 3));
            diagram.join(endOf(x, i + 3), endOf(y, j + 2));
            // The greater number goes first, as it would move down otherwise.
            diagram.drop(Math.max(x, y));
            diagram.drop(Math.min(x, y));
        }
    }

    /** Components with crossings, their orientation, and the signs of the crossings. */
    private static final class Strands {
        static int count(Diagram diagram) {
            int entered = 0;
            int count = 0;
            int ends = diagram.endCount();
            for (int end = 0; end < ends; end++) {
                if (!contains(entered, end) && !contains(entered, end ^ 2)) {
                    entered = enterFrom(diagram, end, entered);
                    count++;
                }
            }
            return count;
        }

        /** The ends at which the oriented components come into crossings. */
        static int enteredEnds(Diagram diagram) {
            int entered = 0;
            for (int arc = 1; arc <= MOST_ARCS; arc++) {
                int first = diagram.firstEnd(arc);
                if (first < 0) {
                    continue;
                }
                int second = diagram.otherEnd(first);
                if (!contains(entered, first) && !contains(entered, second)) {
                    entered = enterFrom(diagram, second, entered);
                }
            }
            return entered;
        }

        /** Adds to a set of ends those at which one enters crossings, beginning at this end. */
        private static int enterFrom(Diagram diagram, int start, int entered) {
            int ends = entered;
            int end = start;
            for (int passed = 0; passed < 2 * MOST_CROSSINGS && !contains(ends, end); passed++) {
                ends |= bit(end);
                end = diagram.otherEnd(end ^ 2);
            }
            return ends;
        }

        static int sign(int crossing, int entered) {
            boolean underFrom0 = contains(entered, 4 * crossing);
            boolean overFrom3 = contains(entered, 4 * crossing + 3);
            return underFrom0 == overFrom3 ? 1 : -1;
        }

        static int signSum(Diagram diagram) {
            int entered = enteredEnds(diagram);
            int sum = 0;
            int crossings = diagram.crossings;
            for (int crossing = 0; crossing < crossings; crossing++) {
                sum += sign(crossing, entered);
            }
            return sum;
        }
    }

    /** Parts, faces and alternation. */
    private static final class Shape {
        static int crossingParts(Diagram diagram) {
            int reached = 0;
            int count = 0;
            int crossings = diagram.crossings;
            for (int crossing = 0; crossing < crossings; crossing++) {
                if (!contains(reached, crossing)) {
                    reached |= partOf(diagram, crossing);
                    count++;
                }
            }
            return count;
        }

        /** The set of crossings, a bit each, in the part of this one. */
        private static int partOf(Diagram diagram, int crossing) {
            int part = bit(crossing);
            int crossings = diagram.crossings;
            int ends = diagram.endCount();
            for (int round = 1; round < crossings; round++) {
                for (int end = 0; end < ends; end++) {
                    if (contains(part, end >> 2)) {
                        part |= bit(diagram.otherEnd(end) >> 2);
                    }
                }
            }
            return part;
        }

        static int endCycles(Diagram diagram) {
            int seen = 0;
            int count = 0;
            int ends = diagram.endCount();
            for (int end = 0; end < ends; end++) {
                if (!contains(seen, end)) {
                    seen |= cycleOf(diagram, end);
                    count++;
                }
            }
            return count;
        }

        private static int cycleOf(Diagram diagram, int start) {
            int cycle = 0;
            int end = start;
            for (int step = 0; step < MOST_ENDS && !contains(cycle, end); step++) {
                cycle |= bit(end);
                int other = diagram.otherEnd(end);
                end = (other & ~3) | ((other + 1) & 3);
            }
            return cycle;
        }

        static boolean alternates(Diagram diagram) {
            int ends = diagram.endCount();
            for (int end = 0; end < ends; end++) {
                if ((end & 1) == (diagram.otherEnd(end) & 1)) {
                    return false;
                }
            }
            return true;
        }
    }

    /** The loops of the states, and the bracket of the diagram for which it was prepared last. */
    private static final class Bracket {
        // Each loop that is no circle has an arc of its own.
        private static final int MOST_LOOPS = MOST_ARCS + MOST_CIRCLES;
        private static final int TALLY_ROW = MOST_CROSSINGS + 1;
        private static final int TALLY_CELLS = (MOST_LOOPS + 1) * TALLY_ROW;
        private static final int EXPONENTS = 2 * WIDEST_EXPONENT + 1;

        private final int[] otherEnds = new int[MOST_ENDS];
        // How many states have so many loops (a row each) and so many B-smoothings.
        private final int[] tally = new int[TALLY_CELLS];
        private final int[] coefficients = new int[EXPONENTS];
        private final int[] product = new int[EXPONENTS];
        private boolean prepared;

        void forget() {
            prepared = false;
        }

        /** The coefficient at an exponent; beyond the row all coefficients are 0. */
        int at(int exponent) {
            int index = exponent + WIDEST_EXPONENT;
            return index >= 0 && index < EXPONENTS ? coefficients[index] : 0;
        }

        int lowest() {
            for (int exponent = -WIDEST_EXPONENT; exponent <= WIDEST_EXPONENT; exponent++) {
                if (at(exponent) != 0) {
                    return exponent;
                }
            }
            return NONE;
        }

        int highest() {
            for (int exponent = WIDEST_EXPONENT; exponent >= -WIDEST_EXPONENT; exponent--) {
                if (at(exponent) != 0) {
                    return exponent;
                }
            }
            return NONE;
        }

        int alternatingSum() {
            int lowest = lowest();
            if (lowest == NONE) {
                return 0;
            }
            int sum = 0;
            int sign = 1;
            for (int exponent = lowest; exponent <= WIDEST_EXPONENT; exponent += 4) {
                sum += sign * at(exponent);
                sign = -sign;
            }
            return Math.abs(sum);
        }

        int loops(Diagram diagram, int state) {
            noteOtherEnds(diagram);
            return countLoops(diagram, state);
        }

        /** Computes the bracket, unless it is known since the diagram changed last. */
        void prepare(Diagram diagram) {
            if (prepared) {
                return;
            }
            noteOtherEnds(diagram);
            tallyStates(diagram);
            sumStates(diagram.crossings);
            prepared = true;
        }

        private void noteOtherEnds(Diagram diagram) {
            for (int end = 0; end < MOST_ENDS; end++) {
                otherEnds[end] = diagram.otherEnd(end);
            }
        }

        private int countLoops(Diagram diagram, int state) {
            int seen = 0;
            int count = diagram.circles;
            int ends = diagram.endCount();
            for (int end = 0; end < ends; end++) {
                if (!contains(seen, end)) {
                    seen = followLoop(end, state, seen);
                    count++;
                }
            }
            return count;
        }

        /** Adds to a set of ends those of the loop through this end. */
        private int followLoop(int start, int state, int seen) {
            int ends = seen;
            int end = start;
            for (int step = 0; step < MOST_ENDS && !contains(ends, end); step++) {
                // An A-smoothing joins 0 with 1 and 2 with 3, a B-smoothing 0 with 3 and 1 with 2.
                int smoothed = contains(state, end >> 2) ? end ^ 3 : end ^ 1;
                ends |= bit(end) | bit(smoothed);
                end = smoothed >= 0 && smoothed < MOST_ENDS ? otherEnds[smoothed] : start;
            }
            return ends;
        }

        private static int tallyIndex(int loops, int bs) {
            return loops * TALLY_ROW + bs;
        }

        private void tallyStates(Diagram diagram) {
            for (int index = 0; index < TALLY_CELLS; index++) {
                tally[index] = 0;
            }
            int states = 1 << diagram.crossings;
            for (int state = 0; state < states; state++) {
                int index = tallyIndex(countLoops(diagram, state), Integer.bitCount(state));
                if (index >= 0 && index < TALLY_CELLS) {
                    tally[index]++;
                }
            }
        }

        /** Sums up by Horner's rule in D, from the states with the most loops down to those with one. */
        private void sumStates(int crossings) {
            for (int index = 0; index < EXPONENTS; index++) {
                coefficients[index] = 0;
            }
            for (int loops = MOST_LOOPS; loops >= 1; loops--) {
                multiplyByD();
                for (int bs = 0; bs <= crossings; bs++) {
                    addTally(tallyIndex(loops, bs), crossings - 2 * bs);
                }
            }
        }

        private void addTally(int from, int exponent) {
            int index = exponent + WIDEST_EXPONENT;
            if (from >= 0 && from < TALLY_CELLS && index >= 0 && index < EXPONENTS) {
                coefficients[index] += tally[from];
            }
        }

        private void multiplyByD() {
            for (int index = 0; index < EXPONENTS; index++) {
                int exponent = index - WIDEST_EXPONENT;
                product[index] = -at(exponent - 2) - at(exponent + 2);
            }
            for (int index = 0; index < EXPONENTS; index++) {
                coefficients[index] = product[index];
            }
        }
    }

    /** The system of equations of the colourings: a row for each crossing, a column for each class. */
    private static final class Colouring {
        private static final int COLUMNS = MOST_ARCS + 1;
        private static final int CELLS = MOST_CROSSINGS * COLUMNS;

        // A class bears the number of its smallest arc, and so does its column.
        private final int[] classes = new int[COLUMNS];
        private final int[] cells = new int[CELLS];

        /** The dimension for a prime p. */
        int dimension(Diagram diagram, int p) {
            uniteOverArcs(diagram);
            writeEquations(diagram, p);
            return countClasses(diagram) + diagram.circles - rank(diagram.crossings, p);
        }

        private int classOf(int arc) {
            return arc >= 0 && arc < COLUMNS ? classes[arc] : 0;
        }

        private void uniteOverArcs(Diagram diagram) {
            for (int arc = 0; arc < COLUMNS; arc++) {
                classes[arc] = arc;
            }
            int crossings = diagram.crossings;
            for (int crossing = 0; crossing < crossings; crossing++) {
                int one = classOf(diagram.arc(4 * crossing + 1));
                int other = classOf(diagram.arc(4 * crossing + 3));
                unite(Math.min(one, other), Math.max(one, other));
            }
        }

        private void unite(int smaller, int greater) {
            for (int arc = 0; arc < COLUMNS; arc++) {
                if (classes[arc] == greater) {
                    classes[arc] = smaller;
                }
            }
        }

        private int countClasses(Diagram diagram) {
            int count = 0;
            for (int arc = 1; arc <= MOST_ARCS; arc++) {
                if (classOf(arc) == arc && diagram.firstEnd(arc) >= 0) {
                    count++;
                }
            }
            return count;
        }

        private void writeEquations(Diagram diagram, int p) {
            for (int index = 0; index < CELLS; index++) {
                cells[index] = 0;
            }
            int crossings = diagram.crossings;
            for (int crossing = 0; crossing < crossings; crossing++) {
                addTerm(crossing, diagram.arc(4 * crossing), 1, p);
                addTerm(crossing, diagram.arc(4 * crossing + 2), 1, p);
                addTerm(crossing, diagram.arc(4 * crossing + 1), -2, p);
            }
        }

        private void addTerm(int row, int arc, int factor, int p) {
            int column = classOf(arc);
            setCell(row, column, cell(row, column) + factor, p);
        }

        private int cell(int row, int column) {
            int index = row * COLUMNS + column;
            return index >= 0 && index < CELLS ? cells[index] : 0;
        }

        private void setCell(int row, int column, int value, int p) {
            int index = row * COLUMNS + column;
            if (index >= 0 && index < CELLS && p > 0) {
                cells[index] = Math.floorMod(value, p);
            }
        }

        private int rank(int equations, int p) {
            int rank = 0;
            for (int column = 1; column <= MOST_ARCS; column++) {
                int pivot = pivotRow(rank, equations, column);
                if (pivot >= 0) {
                    exchangeRows(rank, pivot, p);
                    clearBelow(rank, equations, column, p);
                    rank++;
                }
            }
            return rank;
        }

        /** The first row, from this one on, with a number other than 0 in the column, or -1. */
        private int pivotRow(int from, int equations, int column) {
            for (int row = from; row < equations; row++) {
                if (cell(row, column) != 0) {
                    return row;
                }
            }
            return -1;
        }

        private void exchangeRows(int one, int other, int p) {
            for (int column = 0; column < COLUMNS; column++) {
                int value = cell(one, column);
                setCell(one, column, cell(other, column), p);
                setCell(other, column, value, p);
            }
        }

        /** Multiplying across spares the inverse modulo p; as p is prime, the rank stays. */
        private void clearBelow(int pivot, int equations, int column, int p) {
            int lead = cell(pivot, column);
            for (int row = pivot + 1; row < equations; row++) {
                int factor = cell(row, column);
                for (int k = 0; k < COLUMNS; k++) {
                    setCell(row, k, lead * cell(row, k) - factor * cell(pivot, k), p);
                }
            }
        }
    }
}
