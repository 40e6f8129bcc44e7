/** Makes the objects that the tests begin with, and tells rows of their answers. */
final class Looms {
    static final int B0 = 0, B1 = 1, B2 = 2, A1 = 3, A2 = 4;
    static final int STABLE = 5, PLACE = 6, Y1 = 7, Y2 = 8, WAY = 9;
    static final int TOWARDS_ZERO = 0, DOWN = 1, NEAREST = 2;
    static final int TAPS = 32, PRIME = 97;

    private Looms() {
    }

    static int[] row(int... coefficients) {
        return coefficients;
    }

    /** Adds a section with the coefficients from b0 on, the others left as they are made. */
    static int add(TapLoom loom, int way, int... coefficients) {
        int number = loom.section(way);
        for (int i = 0; i < coefficients.length; i++) {
            loom.set(number, i, coefficients[i]);
        }
        return number;
    }

    /** One section, in no chain. */
    static TapLoom with(int way, int... coefficients) {
        TapLoom loom = new TapLoom();
        add(loom, way, coefficients);
        return loom;
    }

    /** One section, in the chain. */
    static TapLoom chained(int way, int... coefficients) {
        TapLoom loom = with(way, coefficients);
        loom.chain(0);
        return loom;
    }

    /** A section for each row, all in the chain. */
    static TapLoom chainOf(int[]... rows) {
        TapLoom loom = new TapLoom();
        for (int[] row : rows) {
            loom.chain(add(loom, TOWARDS_ZERO, row));
        }
        return loom;
    }

    /** Sections as they are made, in no chain. */
    static TapLoom sections(int count) {
        TapLoom loom = new TapLoom();
        for (int i = 0; i < count; i++) {
            loom.section(TOWARDS_ZERO);
        }
        return loom;
    }

    /** Sections as they are made, the first ones in the chain. */
    static TapLoom chainOfPlain(int sections, int inChain) {
        TapLoom loom = sections(sections);
        for (int i = 0; i < inChain; i++) {
            loom.chain(i);
        }
        return loom;
    }

    /** A section for each a1 and a2, in the chain by numbers. */
    static TapLoom feedbacks(int[]... pairs) {
        TapLoom loom = new TapLoom();
        for (int[] pair : pairs) {
            loom.chain(add(loom, TOWARDS_ZERO, 64, 0, 0, pair[0], pair[1]));
        }
        return loom;
    }

    /** Three sections, two of them in the chain, and something other than 0 wherever something is held. */
    static TapLoom busy() {
        TapLoom loom = new TapLoom();
        add(loom, TOWARDS_ZERO, 40, 30, -20, 25, 10);
        add(loom, DOWN, 64, -17, 9, -30, -12);
        add(loom, NEAREST, 33, 21, 50, 11, 40);
        loom.chain(1);
        loom.chain(2);
        loom.run(3000);
        loom.run(-1700);
        loom.chain(0);
        loom.chain(1);
        loom.run(900);
        loom.run(-2500);
        loom.run(77);
        for (int i = 0; i < 5; i++) {
            loom.tap(i * 7, 90 - i * 13);
            loom.ask(i * 6 + 1, 5 + i * 11);
            loom.sample(40 - i * 23);
        }
        return loom;
    }

    /** The same with eight sections. */
    static TapLoom busyFull() {
        TapLoom loom = busy();
        for (int i = 3; i < 8; i++) {
            loom.section(i % 3);
        }
        return loom;
    }

    /** The same with so many sections in the chain, two to eight. */
    static TapLoom busyChain(int length) {
        TapLoom loom = busyFull();
        for (int i = 3; i < length + 1 && i < 8; i++) {
            loom.chain(i);
        }
        if (length == 8) {
            loom.chain(1);
        }
        return loom;
    }

    static long[] runs(TapLoom loom, int... inputs) {
        long[] outputs = new long[inputs.length];
        for (int i = 0; i < inputs.length; i++) {
            outputs[i] = loom.run(inputs[i]);
        }
        return outputs;
    }

    /** The numbers of the sections in the chain, in their order. */
    static long[] order(TapLoom loom, int sections) {
        long[] numbers = new long[sections];
        int length = 0;
        for (int s = 0; s < sections; s++) {
            int place = loom.of(s, PLACE);
            if (place >= 0 && place < sections) {
                numbers[place] = s;
                length++;
            }
        }
        return java.util.Arrays.copyOf(numbers, length);
    }

    static long[] coefficients(TapLoom loom, int section) {
        long[] told = new long[A2 + 1];
        for (int which = B0; which <= A2; which++) {
            told[which] = loom.of(section, which);
        }
        return told;
    }

    static long[] gain(TapLoom loom, int where) {
        return new long[] {loom.gain(where, false), loom.gain(where, true)};
    }

    static long[] cycles(TapLoom loom, int section, int r) {
        long[] told = new long[4];
        for (int what = 0; what < told.length; what++) {
            told[what] = loom.cycles(section, r, what);
        }
        return told;
    }

    static void sample(TapLoom loom, int first, int last) {
        for (int i = first; i <= last; i++) {
            loom.sample(i);
        }
    }
}
