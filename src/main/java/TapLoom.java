import java.util.ArrayList;
import java.util.Arrays;

/**
 * A designer of digital filters: sections and chains of them, their gains, bounds and cycles, and
 * rows of taps that are designed by their answers to tones in numbers by a prime.
 */
public final class TapLoom {
    /** There is none. */
    public static final int NONE = -1;
    /** Where gains are. */
    public static final int LOW = 0, HIGH = 1, QUARTER = 2;

    private static final int MOST_SECTIONS = 8;
    private static final int MOST_AT_QUARTER = 2, MOST_ELSEWHERE = 4;
    private static final int MOST_BOUND = 10000;
    private static final int MOST_RANGE = 12;
    private static final int OUTPUTS_KEPT = 16, SAMPLES_KEPT = 64;
    private static final int IS_STABLE = 5, PLACE = 6, Y1 = 7, Y2 = 8, WAY = 9;

    private final ArrayList<Section> sections;
    private final Chain chained;
    private final Latest outputs;
    private final CycleSearch search;
    private final TapRow row;
    private final Latest samples;

    /** Opens a workshop without sections, all taps and samples 0. */
    public TapLoom() {
        sections = new ArrayList<>();
        chained = new Chain();
        outputs = new Latest(OUTPUTS_KEPT);
        search = new CycleSearch();
        row = new TapRow();
        samples = new Latest(SAMPLES_KEPT);
    }

    // ---- sections

    /** Makes a section, whose output is its input; returns its number. */
    public int section(int way) throws IllegalArgumentException, IllegalStateException {
        requireWithin(way, Section.TOWARDS_ZERO, Section.NEAREST);
        if (sections.size() >= MOST_SECTIONS) {
            throw new IllegalStateException("there are 8 sections");
        }
        int number = sections.size();
        sections.add(new Section(number, way));
        return number;
    }

    /** Sets a coefficient; returns the one before. */
    public int set(int section, int which, int value)
            throws IndexOutOfBoundsException, IllegalArgumentException {
        requirePlace(section, sections.size());
        requireWithin(which, Section.B0, Section.A2);
        requireWithin(value, -Section.MOST_COEFFICIENT, Section.MOST_COEFFICIENT);
        return sections.get(section).replace(which, value);
    }

    /** Puts a section behind the chain, or takes it out; returns how many the chain has then. */
    public int chain(int section) throws IndexOutOfBoundsException {
        requirePlace(section, sections.size());
        return chained.toggle(sections.get(section));
    }

    /** Arranges the chain; returns how many of its sections have another place then. */
    public int arrange() {
        return chained.putInOrder();
    }

    /** Lets an input go through the chain; returns the output. */
    public int run(int x) throws IllegalArgumentException {
        requireWithin(x, -Section.MOST_SIGNAL, Section.MOST_SIGNAL);
        int y = chained.letThrough(x);
        outputs.add(y);
        return y;
    }

    /** Makes all sections' inputs and outputs 0, forgets the chain's; returns how many were kept. */
    public int rest() {
        for (int i = 0; i < sections.size(); i++) {
            sections.get(i).calm();
        }
        int kept = outputs.count();
        outputs.forget();
        return kept;
    }

    // ---- taps, samples

    /** Sets a tap; returns the number before. */
    public int tap(int tap, int value) throws IndexOutOfBoundsException, IllegalArgumentException {
        requirePlace(tap, TapRow.TAPS);
        requireRemainder(value);
        return row.replaceTap(tap, value);
    }

    /** Asks for an answer to a tone; returns what was asked before. */
    public int ask(int tone, int value) throws IndexOutOfBoundsException, IllegalArgumentException {
        requirePlace(tone, TapRow.TAPS);
        requireRemainder(value);
        return row.replaceAsked(tone, value);
    }

    /** Designs the taps; returns how many are other than before. */
    public int design() {
        return row.takeDesign();
    }

    /** Puts a sample behind the others; returns how many there are then. */
    public int sample(int value) throws IllegalArgumentException {
        requireRemainder(value);
        samples.add(value);
        return samples.count();
    }

    // ---- what is asked

    /** Tells something of a section. */
    public int of(int section, int what) throws IndexOutOfBoundsException, IllegalArgumentException {
        requirePlace(section, sections.size());
        requireWithin(what, Section.B0, WAY);
        Section told = sections.get(section);
        switch (what) {
            case IS_STABLE: return told.isStable() ? 1 : 0;
            case PLACE: return chained.placeOf(told);
            case Y1: return told.y1;
            case Y2: return told.y2;
            case WAY: return told.way;
            default: return told.coefficient(what);
        }
    }

    /** Returns an output of the chain; 0 if there are not so many. */
    public int output(int back) throws IndexOutOfBoundsException {
        requireBack(back);
        return outputs.at(back);
    }

    /** Returns the number, or the divisor, of the chain's gain. */
    public long gain(int where, boolean isDivisor) throws IllegalArgumentException, IllegalStateException {
        requireWithin(where, LOW, QUARTER);
        requireShortChain(where);
        Fraction whole = chained.gainAt(where);
        return isDivisor ? whole.divisor : whole.number;
    }

    /** Tells whether the chain meets two bounds. */
    public boolean meets(int where, int low, int high) throws IllegalArgumentException, IllegalStateException {
        requireWithin(where, LOW, QUARTER);
        requireWithin(low, 0, MOST_BOUND);
        requireWithin(high, low, MOST_BOUND);
        requireShortChain(where);
        if (!chained.isStable()) {
            return false;
        }
        Fraction whole = chained.gainAt(where);
        // The gain at the quarter is told squared, so the bounds and their thousandths are squared too.
        return where == QUARTER
                ? whole.isWithin((long) low * low, (long) high * high, 1000000L)
                : whole.isWithin(low, high, 1000L);
    }

    /** Tells of the cycles of a section, through all states to r. */
    public int cycles(int section, int r, int what) throws IndexOutOfBoundsException, IllegalArgumentException {
        requirePlace(section, sections.size());
        requireWithin(r, 1, MOST_RANGE);
        requireWithin(what, CycleSearch.COUNT, CycleSearch.LEAVING);
        search.tryAll(sections.get(section), r);
        return search.found(what);
    }

    /** Returns a tap. */
    public int tapOf(int tap) throws IndexOutOfBoundsException {
        requirePlace(tap, TapRow.TAPS);
        return row.tapAt(tap);
    }

    /** Returns the answer of the taps to a tone. */
    public int answer(int tone) throws IndexOutOfBoundsException {
        requirePlace(tone, TapRow.TAPS);
        return row.answerBySum(tone);
    }

    /** Returns the same, found anew by two numbers that go from tap to tap. */
    public int answerAnew(int tone) throws IndexOutOfBoundsException {
        requirePlace(tone, TapRow.TAPS);
        return row.answerByTwo(tone);
    }

    /** Returns a number of the samples that were sifted; NONE if there are not so many samples. */
    public int sifted(int back) throws IndexOutOfBoundsException {
        requireBack(back);
        return back < samples.count() ? row.sift(samples, back) : NONE;
    }

    // ---- what is refused

    private static void requirePlace(int place, int count) {
        if (place < 0 || place >= count) {
            throw new IndexOutOfBoundsException("there is none of this number");
        }
    }

    private static void requireBack(int back) {
        if (back < 0) {
            throw new IndexOutOfBoundsException("there is none behind the latest one");
        }
    }

    private static void requireWithin(int value, int least, int most) {
        if (value < least || value > most) {
            throw new IllegalArgumentException("an argument is out of its range");
        }
    }

    private static void requireRemainder(int value) {
        requireWithin(value, 1 - TapRow.PRIME, TapRow.PRIME - 1);
    }

    private void requireShortChain(int where) {
        if (chained.length() > (where == QUARTER ? MOST_AT_QUARTER : MOST_ELSEWHERE)) {
            throw new IllegalStateException("the chain has too many sections");
        }
    }

    /** A filter of five coefficients in 64ths, with its latest inputs and outputs. */
    private static final class Section {
        static final int TOWARDS_ZERO = 0, DOWN = 1, NEAREST = 2;
        static final int B0 = 0, B1 = 1, B2 = 2, A1 = 3, A2 = 4;
        static final int ONE = 64;
        static final int MOST_COEFFICIENT = 127, MOST_SIGNAL = 32767;

        final int number;
        final int way;
        private final int[] coefficients;
        private int x1, x2;
        int y1, y2;

        Section(int number, int way) {
            this.number = number;
            this.way = way;
            coefficients = new int[A2 + 1];
            coefficients[B0] = ONE;
        }

        int coefficient(int which) {
            return which >= B0 && which <= A2 ? coefficients[which] : 0;
        }

        int replace(int which, int value) {
            int before = coefficient(which);
            if (which >= B0 && which <= A2) {
                coefficients[which] = value;
            }
            return before;
        }

        void calm() {
            x1 = 0;
            x2 = 0;
            y1 = 0;
            y2 = 0;
        }

        int take(int x) {
            int fed = coefficients[B0] * x + coefficients[B1] * x1 + coefficients[B2] * x2;
            int y = outputFrom(fed, y1, y2);
            x2 = x1;
            x1 = x;
            y2 = y1;
            y1 = y;
            return y;
        }

        /** The output when the inputs come to fed, in 64ths, and the outputs ahead are those. */
        int outputFrom(int fed, int last, int ahead) {
            int y = rounded(fed - coefficients[A1] * last - coefficients[A2] * ahead);
            return Math.max(-MOST_SIGNAL, Math.min(MOST_SIGNAL, y));
        }

        private int rounded(int sum) {
            switch (way) {
                case DOWN: return Math.floorDiv(sum, ONE);
                case NEAREST: return Math.floorDiv(sum + ONE / 2, ONE);
                default: return sum / ONE;
            }
        }

        boolean isStable() {
            int a2 = coefficients[A2];
            return a2 > -ONE && a2 < ONE && Math.abs(coefficients[A1]) < a2 + ONE;
        }

        boolean goesAheadOf(Section other) {
            if (coefficients[A2] != other.coefficients[A2]) {
                return coefficients[A2] < other.coefficients[A2];
            }
            int size = Math.abs(coefficients[A1]);
            int otherSize = Math.abs(other.coefficients[A1]);
            return size != otherSize ? size < otherSize : number < other.number;
        }

        long gainNumber(int where) {
            return valueAt(where, coefficients[B0], coefficients[B1], coefficients[B2]);
        }

        long gainDivisor(int where) {
            return valueAt(where, ONE, coefficients[A1], coefficients[A2]);
        }

        private static long valueAt(int where, long c0, long c1, long c2) {
            switch (where) {
                case LOW: return c0 + c1 + c2;
                case HIGH: return c0 - c1 + c2;
                default: return (c0 - c2) * (c0 - c2) + c1 * c1;
            }
        }
    }

    /** A row of sections, each once. */
    private static final class Chain {
        private ArrayList<Section> members;

        Chain() {
            members = new ArrayList<>();
        }

        int length() {
            return members.size();
        }

        int placeOf(Section section) {
            for (int i = 0; i < members.size(); i++) {
                if (members.get(i) == section) {
                    return i;
                }
            }
            return NONE;
        }

        int toggle(Section section) {
            int place = placeOf(section);
            if (place == NONE) {
                members.add(section);
            } else {
                members.remove(place);
            }
            return members.size();
        }

        int putInOrder() {
            ArrayList<Section> ordered = new ArrayList<>();
            for (int i = 0; i < members.size(); i++) {
                insert(ordered, members.get(i));
            }
            int moved = 0;
            for (int i = 0; i < members.size() && i < ordered.size(); i++) {
                if (members.get(i) != ordered.get(i)) {
                    moved++;
                }
            }
            members = ordered;
            return moved;
        }

        private static void insert(ArrayList<Section> ordered, Section section) {
            int place = 0;
            while (place < ordered.size() && ordered.get(place).goesAheadOf(section)) {
                place++;
            }
            ordered.add(place, section);
        }

        int letThrough(int x) {
            int signal = x;
            for (int i = 0; i < members.size(); i++) {
                signal = members.get(i).take(signal);
            }
            return signal;
        }

        boolean isStable() {
            for (int i = 0; i < members.size(); i++) {
                if (!members.get(i).isStable()) {
                    return false;
                }
            }
            return true;
        }

        Fraction gainAt(int where) {
            Fraction product = new Fraction();
            for (int i = 0; i < members.size(); i++) {
                Section section = members.get(i);
                product.multiply(section.gainNumber(where), section.gainDivisor(where));
            }
            product.makeSmall();
            return product;
        }
    }

    /** A number by a divisor, first 1 by 1. */
    private static final class Fraction {
        // Euclid's steps on two longs are fewer than this, whatever the longs are.
        private static final int MOST_STEPS = 100;

        long number, divisor;

        Fraction() {
            number = 1;
            divisor = 1;
        }

        void multiply(long byNumber, long byDivisor) {
            number *= byNumber;
            divisor *= byDivisor;
        }

        void makeSmall() {
            if (divisor == 0) {
                number = 1;
                return;
            }
            long common = commonDivisor(Math.abs(number), Math.abs(divisor));
            long shared = divisor < 0 ? -common : common;
            if (shared != 0) {
                number /= shared;
                divisor /= shared;
            }
        }

        private static long commonDivisor(long one, long other) {
            long greater = one;
            long lesser = other;
            for (int step = 0; step < MOST_STEPS && lesser != 0; step++) {
                long left = greater % lesser;
                greater = lesser;
                lesser = left;
            }
            return greater;
        }

        /** Whether this, either way, is from low to high, both by scale; the divisor is above 0. */
        boolean isWithin(long low, long high, long scale) {
            long size = Math.abs(number) * scale;
            return size >= low * divisor && size <= high * divisor;
        }
    }

    /** Follows a section without input from state to state, each state told by one number. */
    private static final class CycleSearch {
        static final int COUNT = 0, LONGEST = 1, GREATEST = 2, LEAVING = 3;

        private static final int EDGE = 100;
        private static final int SIDE = 2 * EDGE + 1;
        private static final int STATES = SIDE * SIDE;
        private static final int OUTSIDE = -1;
        private static final int STILL = EDGE * SIDE + EDGE;

        private static final int NEW = 0, ON_PATH = 1, COMES_BACK = 2, LEAVES = 3;
        private static final int MARKS_BY_WORD = 32;

        // Two bits a state: one element a state would be forty thousand an object.
        private final long[] marks;
        private int count, longest, greatest, leaving;

        CycleSearch() {
            marks = new long[STATES / MARKS_BY_WORD + 1];
        }

        void tryAll(Section section, int r) {
            Arrays.fill(marks, 0L);
            count = 0;
            longest = 0;
            greatest = 0;
            leaving = 0;
            for (int y1 = -r; y1 <= r; y1++) {
                for (int y2 = -r; y2 <= r; y2++) {
                    tryFrom(section, stateOf(y1, y2));
                }
            }
        }

        int found(int what) {
            switch (what) {
                case COUNT: return count;
                case LONGEST: return longest;
                case GREATEST: return greatest;
                default: return leaving;
            }
        }

        private void tryFrom(Section section, int start) {
            int end = walk(section, start, NEW, ON_PATH);
            int mark = markOf(end);
            if (mark == ON_PATH && end != STILL) {
                countCycle(section, end);
            }
            // The way was not known while it was walked: its states are told their end afterwards.
            walk(section, start, ON_PATH, mark == LEAVES ? LEAVES : COMES_BACK);
            if (mark == LEAVES) {
                leaving++;
            }
        }

        /** Marks the states from one on as long as they bear one mark; returns the first other one. */
        private int walk(Section section, int start, int from, int to) {
            int state = start;
            for (int step = 0; step <= STATES && markOf(state) == from; step++) {
                mark(state, to);
                state = next(section, state);
            }
            return state;
        }

        private void countCycle(Section section, int first) {
            int length = 0;
            int state = first;
            do {
                length++;
                greatest = Math.max(greatest, Math.abs(lastOf(state)));
                state = next(section, state);
            } while (state != first && length < STATES);
            count++;
            longest = Math.max(longest, length);
        }

        private static int next(Section section, int state) {
            int last = lastOf(state);
            return stateOf(section.outputFrom(0, last, aheadOf(state)), last);
        }

        private static int stateOf(int last, int ahead) {
            if (Math.abs(last) > EDGE || Math.abs(ahead) > EDGE) {
                return OUTSIDE;
            }
            return (last + EDGE) * SIDE + ahead + EDGE;
        }

        private static int lastOf(int state) {
            return state / SIDE - EDGE;
        }

        private static int aheadOf(int state) {
            return state % SIDE - EDGE;
        }

        private int markOf(int state) {
            if (state < 0 || state >= STATES) {
                return LEAVES;
            }
            return (int) (marks[state / MARKS_BY_WORD] >>> shiftOf(state)) & 3;
        }

        private void mark(int state, int mark) {
            if (state < 0 || state >= STATES) {
                return;
            }
            long others = marks[state / MARKS_BY_WORD] & ~(3L << shiftOf(state));
            marks[state / MARKS_BY_WORD] = others | (long) mark << shiftOf(state);
        }

        private static int shiftOf(int state) {
            return state % MARKS_BY_WORD * 2;
        }
    }

    /** The taps, and what is asked of them, in numbers by the prime. */
    private static final class TapRow {
        static final int TAPS = 32;
        static final int PRIME = 97;
        private static final int FIRST_ROOT = 28;
        // 32 times 94 is 31 times 97, and 1.
        private static final int PART_OF_TAPS = 94;

        private final int[] taps;
        private final int[] asked;
        private final int[] powers;

        TapRow() {
            taps = new int[TAPS];
            asked = new int[TAPS];
            powers = new int[TAPS];
            int power = 1;
            for (int i = 0; i < TAPS; i++) {
                powers[i] = power;
                power = power * FIRST_ROOT % PRIME;
            }
        }

        /** The root of a tone, so many times; the powers begin anew after 32. */
        private int rootOf(int tone, int times) {
            return powers[Math.floorMod(tone * times, TAPS)];
        }

        int tapAt(int tap) {
            return tap >= 0 && tap < TAPS ? taps[tap] : 0;
        }

        int replaceTap(int tap, int value) {
            return replaceIn(taps, tap, value);
        }

        int replaceAsked(int tone, int value) {
            return replaceIn(asked, tone, value);
        }

        private static int replaceIn(int[] numbers, int place, int value) {
            if (place < 0 || place >= numbers.length) {
                return 0;
            }
            int before = numbers[place];
            numbers[place] = Math.floorMod(value, PRIME);
            return before;
        }

        int takeDesign() {
            int changed = 0;
            for (int t = 0; t < TAPS; t++) {
                int sum = 0;
                for (int k = 0; k < TAPS; k++) {
                    sum += asked[k] * rootOf(k, TAPS - t);
                }
                int designed = sum % PRIME * PART_OF_TAPS % PRIME;
                if (replaceTap(t, designed) != designed) {
                    changed++;
                }
            }
            return changed;
        }

        int answerBySum(int tone) {
            int sum = 0;
            for (int t = 0; t < TAPS; t++) {
                sum += taps[t] * rootOf(tone, t);
            }
            return sum % PRIME;
        }

        int answerByTwo(int tone) {
            int inverse = rootOf(tone, TAPS - 1);
            int c = rootOf(tone, 1) + inverse;
            int last = 0;
            int ahead = 0;
            for (int t = TAPS - 1; t >= 0; t--) {
                int found = Math.floorMod(taps[t] + c * last - ahead, PRIME);
                ahead = last;
                last = found;
            }
            return Math.floorMod(last - ahead * inverse, PRIME);
        }

        int sift(Latest samples, int back) {
            int sum = 0;
            for (int t = 0; t < TAPS; t++) {
                sum += taps[t] * samples.at(back + t);
            }
            return Math.floorMod(sum, PRIME);
        }
    }

    /** The latest numbers of a row, the very latest first. */
    private static final class Latest {
        private final int[] kept;
        private int count;

        Latest(int most) {
            kept = new int[Math.max(1, most)];
        }

        void add(int value) {
            System.arraycopy(kept, 0, kept, 1, kept.length - 1);
            kept[0] = value;
            count = Math.min(count + 1, kept.length);
        }

        int at(int back) {
            return back >= 0 && back < count && back < kept.length ? kept[back] : 0;
        }

        int count() {
            return count;
        }

        void forget() {
            count = 0;
        }
    }
}
