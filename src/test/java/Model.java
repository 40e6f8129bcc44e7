import java.math.BigInteger;
import java.util.ArrayDeque;
import java.util.ArrayList;
import java.util.Collections;
import java.util.Comparator;
import java.util.Deque;
import java.util.HashSet;
import java.util.List;
import java.util.Set;

/** The document's words once more, slow and by other means, for random runs to be held against. */
final class Model {
    private static final long TWO_32 = 1L << 32;

    private static final class Part {
        final int number;
        final int way;
        final int[] c = {64, 0, 0, 0, 0};
        int x1, x2, y1, y2;

        Part(int number, int way) {
            this.number = number;
            this.way = way;
        }

        int size() {
            return Math.abs(c[3]);
        }

        int out(int x, int ahead1, int ahead2, int last, int beforeLast) {
            double sum = (double) c[0] * x + (double) c[1] * ahead1 + (double) c[2] * ahead2
                    - (double) c[3] * last - (double) c[4] * beforeLast;
            double whole = sum / 64;
            double y;
            if (way == 0) {
                y = whole < 0 ? Math.ceil(whole) : Math.floor(whole);
            } else {
                y = Math.floor(way == 1 ? whole : whole + 0.5);
            }
            return (int) Math.max(-32767, Math.min(32767, y));
        }

        boolean stable() {
            return c[4] > -64 && c[4] < 64 && c[3] < c[4] + 64 && -c[3] < c[4] + 64;
        }
    }

    private final List<Part> parts = new ArrayList<>();
    private List<Part> chain = new ArrayList<>();
    private final Deque<Integer> outputs = new ArrayDeque<>();
    private final Deque<Integer> samples = new ArrayDeque<>();
    private final int[] taps = new int[32];
    private final int[] asked = new int[32];

    private static void index(boolean fine) {
        if (!fine) {
            throw new IndexOutOfBoundsException();
        }
    }

    private static void argument(boolean fine) {
        if (!fine) {
            throw new IllegalArgumentException();
        }
    }

    private static void state(boolean fine) {
        if (!fine) {
            throw new IllegalStateException();
        }
    }

    private Part part(int section) {
        index(section >= 0 && section < parts.size());
        return parts.get(section);
    }

    int section(int way) {
        argument(way >= 0 && way <= 2);
        state(parts.size() < 8);
        parts.add(new Part(parts.size(), way));
        return parts.size() - 1;
    }

    int set(int section, int which, int value) {
        Part part = part(section);
        argument(which >= 0 && which <= 4 && value >= -127 && value <= 127);
        int before = part.c[which];
        part.c[which] = value;
        return before;
    }

    int chain(int section) {
        Part part = part(section);
        if (!chain.remove(part)) {
            chain.add(part);
        }
        return chain.size();
    }

    int arrange() {
        List<Part> before = chain;
        chain = new ArrayList<>(before);
        Collections.sort(chain, Comparator.comparingInt((Part p) -> p.c[4])
                .thenComparingInt(Part::size).thenComparingInt(p -> p.number));
        int moved = 0;
        for (Part p : before) {
            moved += before.indexOf(p) == chain.indexOf(p) ? 0 : 1;
        }
        return moved;
    }

    int run(int x) {
        argument(x >= -32767 && x <= 32767);
        int signal = x;
        for (Part p : chain) {
            int y = p.out(signal, p.x1, p.x2, p.y1, p.y2);
            p.x2 = p.x1;
            p.x1 = signal;
            p.y2 = p.y1;
            p.y1 = y;
            signal = y;
        }
        outputs.addFirst(signal);
        if (outputs.size() > 16) {
            outputs.removeLast();
        }
        return signal;
    }

    int rest() {
        for (Part p : parts) {
            p.x1 = p.x2 = p.y1 = p.y2 = 0;
        }
        int kept = outputs.size();
        outputs.clear();
        return kept;
    }

    int tap(int tap, int value) {
        index(tap >= 0 && tap < 32);
        argument(value >= -96 && value <= 96);
        int before = taps[tap];
        taps[tap] = (value + 97) % 97;
        return before;
    }

    int ask(int tone, int value) {
        index(tone >= 0 && tone < 32);
        argument(value >= -96 && value <= 96);
        int before = asked[tone];
        asked[tone] = (value + 97) % 97;
        return before;
    }

    private static long power(long root, long times) {
        return BigInteger.valueOf(root).pow((int) times).mod(BigInteger.valueOf(97)).longValue();
    }

    int design() {
        int other = 0;
        long part = BigInteger.valueOf(32).modInverse(BigInteger.valueOf(97)).longValue();
        for (int t = 0; t < 32; t++) {
            long sum = 0;
            for (int k = 0; k < 32; k++) {
                sum += asked[k] * power(28, (long) k * (32 - t));
            }
            int tap = (int) (sum * part % 97);
            other += tap == taps[t] ? 0 : 1;
            taps[t] = tap;
        }
        return other;
    }

    int sample(int value) {
        argument(value >= -96 && value <= 96);
        samples.addFirst(value);
        if (samples.size() > 64) {
            samples.removeLast();
        }
        return samples.size();
    }

    int of(int section, int what) {
        Part p = part(section);
        argument(what >= 0 && what <= 9);
        int[] told = {p.c[0], p.c[1], p.c[2], p.c[3], p.c[4], p.stable() ? 1 : 0,
            chain.indexOf(p), p.y1, p.y2, p.way};
        return told[what];
    }

    int output(int back) {
        index(back >= 0);
        return back < outputs.size() ? new ArrayList<>(outputs).get(back) : 0;
    }

    private BigInteger[] fraction(int where) {
        BigInteger number = BigInteger.ONE;
        BigInteger divisor = BigInteger.ONE;
        for (Part p : chain) {
            number = number.multiply(value(where, p.c[0], p.c[1], p.c[2]));
            divisor = divisor.multiply(value(where, 64, p.c[3], p.c[4]));
        }
        if (divisor.signum() == 0) {
            return new BigInteger[] {BigInteger.ONE, divisor};
        }
        BigInteger by = number.gcd(divisor);
        by = divisor.signum() < 0 ? by.negate() : by;
        return new BigInteger[] {number.divide(by), divisor.divide(by)};
    }

    private static BigInteger value(int where, int c0, int c1, int c2) {
        if (where == 2) {
            return BigInteger.valueOf(c0 - c2).pow(2).add(BigInteger.valueOf(c1).pow(2));
        }
        return BigInteger.valueOf(where == 0 ? c0 + c1 + c2 : c0 + c2 - c1);
    }

    long gain(int where, boolean isDivisor) {
        argument(where >= 0 && where <= 2);
        state(chain.size() <= (where == 2 ? 2 : 4));
        return fraction(where)[isDivisor ? 1 : 0].longValueExact();
    }

    boolean meets(int where, int low, int high) {
        argument(where >= 0 && where <= 2);
        argument(low >= 0 && low <= 10000 && high >= low && high <= 10000);
        state(chain.size() <= (where == 2 ? 2 : 4));
        for (Part p : chain) {
            if (!p.stable()) {
                return false;
            }
        }
        int power = where == 2 ? 2 : 1;
        BigInteger[] gain = fraction(where);
        BigInteger size = gain[0].abs().multiply(BigInteger.valueOf(1000).pow(power));
        return size.compareTo(BigInteger.valueOf(low).pow(power).multiply(gain[1])) >= 0
                && size.compareTo(BigInteger.valueOf(high).pow(power).multiply(gain[1])) <= 0;
    }

    /** Each tried state is followed alone, without what the others told. */
    int cycles(int section, int r, int what) {
        Part p = part(section);
        argument(r >= 1 && r <= 12 && what >= 0 && what <= 3);
        Set<Set<Long>> found = new HashSet<>();
        int leaving = 0;
        for (int y1 = -r; y1 <= r; y1++) {
            for (int y2 = -r; y2 <= r; y2++) {
                Set<Long> cycle = cycleFrom(p, y1, y2);
                if (cycle == null) {
                    leaving++;
                } else {
                    found.add(cycle);
                }
            }
        }
        found.remove(Collections.singleton(stateOf(0, 0)));
        long longest = 0;
        long greatest = 0;
        for (Set<Long> cycle : found) {
            longest = Math.max(longest, cycle.size());
            for (long state : cycle) {
                greatest = Math.max(greatest, Math.max(Math.abs(state >> 32), Math.abs((int) state)));
            }
        }
        return new int[] {found.size(), (int) longest, (int) greatest, leaving}[what];
    }

    private static long stateOf(int y1, int y2) {
        return y1 * TWO_32 + (y2 & (TWO_32 - 1));
    }

    private static Set<Long> cycleFrom(Part p, int first, int second) {
        Set<Long> seen = new HashSet<>();
        Set<Long> again = new HashSet<>();
        int y1 = first;
        int y2 = second;
        while (Math.abs(y1) <= 100 && Math.abs(y2) <= 100) {
            long state = stateOf(y1, y2);
            if (!seen.add(state) && !again.add(state)) {
                return again;
            }
            int y = p.out(0, 0, 0, y1, y2);
            y2 = y1;
            y1 = y;
        }
        return null;
    }

    int tapOf(int tap) {
        index(tap >= 0 && tap < 32);
        return taps[tap];
    }

    int answer(int tone) {
        index(tone >= 0 && tone < 32);
        long sum = 0;
        long root = power(28, tone);
        for (int t = 0; t < 32; t++) {
            sum += taps[t] * power(root, t);
        }
        return (int) (sum % 97);
    }

    int sifted(int back) {
        index(back >= 0);
        List<Integer> row = new ArrayList<>(samples);
        if (back >= row.size()) {
            return -1;
        }
        long sum = 0;
        for (int t = 0; t < 32 && back + t < row.size(); t++) {
            sum += (long) taps[t] * row.get(back + t);
        }
        return (int) Math.floorMod(sum, 97L);
    }
}
