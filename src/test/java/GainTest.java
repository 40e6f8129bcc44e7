/** Promises 14 and 15: gains as fractions, and the bounds that a chain meets. */
final class GainTest {
    private static final int LOW = TapLoom.LOW, HIGH = TapLoom.HIGH, QUARTER = TapLoom.QUARTER;

    private static final Check CHECK = new Check();

    public static void main(String[] args) {
        promise14One();
        promise14Signs();
        promise14NoDivisor();
        promise14Most();
        promise14Refuses();
        promise15Edges();
        promise15Quarter();
        promise15Unstable();
        promise15Refuses();
        CHECK.end();
    }

    private static TapLoom chainOf(int[]... rows) {
        TapLoom loom = new TapLoom();
        for (int[] row : rows) {
            int number = loom.section(0);
            for (int i = 0; i < row.length; i++) {
                loom.set(number, i, row[i]);
            }
            loom.chain(number);
        }
        return loom;
    }

    private static int[] row(int... coefficients) {
        return coefficients;
    }

    private static void gainIs(TapLoom loom, int where, long number, long divisor) {
        CHECK.due("gain at " + where, loom.gain(where, false), number);
        CHECK.due("its divisor", loom.gain(where, true), divisor);
    }

    private static void promise14One() {
        TapLoom loom = chainOf(row(10, 7, 5, 3, 2));
        gainIs(loom, LOW, 22, 69);
        gainIs(loom, HIGH, 8, 63);
        gainIs(loom, QUARTER, 74, 3853);
        loom.set(0, 0, 9);
        gainIs(loom, LOW, 7, 23);
        gainIs(loom, HIGH, 1, 9);
        loom.chain(0);
        gainIs(loom, LOW, 1, 1);
        TapLoom two = chainOf(row(10, 7, 5, 3, 2), row(69, 0, 0, 0, -42));
        gainIs(two, LOW, 1, 1);
        gainIs(two, QUARTER, 74L * 4761 / 2, 3853L * 106 * 106 / 2);
    }

    private static void promise14Signs() {
        TapLoom above = chainOf(row(64, 0, 0, 0, -100));
        gainIs(above, LOW, -16, 9);
        above.set(0, 0, -64);
        gainIs(above, LOW, 16, 9);
        TapLoom below = chainOf(row(-64));
        gainIs(below, LOW, -1, 1);
        gainIs(below, QUARTER, 1, 1);
        TapLoom nothing = chainOf(row(0, 0, 0, 0, -100));
        gainIs(nothing, LOW, 0, 1);
        gainIs(nothing, HIGH, 0, 1);
        gainIs(nothing, QUARTER, 0, 1);
        TapLoom both = chainOf(row(64, 0, 0, 0, -100), row(64, 0, 0, 0, -100));
        gainIs(both, LOW, 256, 81);
    }

    private static void promise14NoDivisor() {
        TapLoom loom = chainOf(row(-5, 0, 0, -64, 0));
        gainIs(loom, LOW, 1, 0);
        gainIs(loom, HIGH, -5, 128);
        loom.set(0, 0, 0);
        gainIs(loom, LOW, 1, 0);
        TapLoom high = chainOf(row(0), row(64, 0, 0, 64, 0));
        gainIs(high, HIGH, 1, 0);
        gainIs(high, LOW, 0, 1);
        TapLoom quarter = chainOf(row(64, 0, 0, 0, 64));
        gainIs(quarter, QUARTER, 1, 0);
    }

    private static void promise14Most() {
        int[] great = row(127, 127, 127, 3, 4);
        TapLoom four = chainOf(great, great, great, great);
        gainIs(four, LOW, 381L * 381 * 381 * 381, 71L * 71 * 71 * 71);
        TapLoom two = chainOf(row(127, 126, -127, 7, 1), row(-127, 126, 127, 7, 1));
        long top = 254L * 254 + 126 * 126;
        long under = 63L * 63 + 49;
        // both are made of twos and odd ones that they do not share but for 2
        long twos = 2;
        gainIs(two, QUARTER, top * top / (twos * twos), under * under / (twos * twos));
    }

    private static void promise14Refuses() {
        TapLoom loom = chainOf(row(64), row(64));
        gainIs(loom, QUARTER, 1, 1);
        CHECK.refusesArgument("gain(-1)", () -> loom.gain(-1, true));
        CHECK.refusesArgument("gain(3)", () -> loom.gain(3, false));
        loom.section(0);
        loom.chain(2);
        CHECK.refusesState("three at the quarter", () -> loom.gain(QUARTER, true));
        gainIs(loom, LOW, 1, 1);
        loom.section(0);
        loom.chain(3);
        gainIs(loom, HIGH, 1, 1);
        loom.section(0);
        loom.chain(4);
        CHECK.refusesState("five at low", () -> loom.gain(LOW, true));
        CHECK.refusesState("five at high", () -> loom.gain(HIGH, false));
        CHECK.refusesState("five at the quarter", () -> loom.gain(QUARTER, false));
        CHECK.refusesArgument("five at 3", () -> loom.gain(3, false));
    }

    private static void promise15Edges() {
        TapLoom loom = new TapLoom();
        for (int where = LOW; where <= QUARTER; where++) {
            CHECK.due("empty, just so", loom.meets(where, 1000, 1000), true);
            CHECK.due("empty, above", loom.meets(where, 1001, 10000), false);
            CHECK.due("empty, below", loom.meets(where, 0, 999), false);
        }
        TapLoom third = chainOf(row(32, 0, 0, 32, 0));
        CHECK.due("a third, to 333", third.meets(LOW, 0, 333), false);
        CHECK.due("a third, from 334", third.meets(LOW, 334, 10000), false);
        CHECK.due("a third, 333 to 334", third.meets(LOW, 333, 334), true);
        third.set(0, 0, -32);
        CHECK.due("either way", third.meets(LOW, 333, 334), true);
        TapLoom ten = chainOf(row(64, 64, 32, 0, -48));
        CHECK.due("ten", ten.meets(LOW, 10000, 10000), true);
        CHECK.due("less than ten", ten.meets(LOW, 0, 9999), false);
        TapLoom nothing = chainOf(row(0));
        CHECK.due("nothing", nothing.meets(HIGH, 0, 0), true);
        CHECK.due("nothing from 1", nothing.meets(HIGH, 1, 10000), false);
        int[] great = row(127, 127, 127, -63, 0);
        TapLoom vast = chainOf(great, great, great, great);
        CHECK.due("above all bounds", vast.meets(LOW, 0, 10000), false);
        CHECK.due("at high it is not", vast.meets(HIGH, 1000, 1000), true);
    }

    private static void promise15Quarter() {
        TapLoom fifth = chainOf(row(64, 0, 0, 0, 0));
        fifth.set(0, 1, 48);
        CHECK.due("5 by 4", fifth.meets(QUARTER, 1250, 1250), true);
        CHECK.due("from 1251", fifth.meets(QUARTER, 1251, 10000), false);
        CHECK.due("to 1249", fifth.meets(QUARTER, 0, 1249), false);
        TapLoom vast = chainOf(row(127, 127, -127, 0, 63), row(127, 127, -127, 0, 63));
        CHECK.due("above all bounds", vast.meets(QUARTER, 0, 10000), false);
        TapLoom root = chainOf(row(64, 64, 0, 0, 0));
        CHECK.due("root of 2", root.meets(QUARTER, 1414, 1415), true);
        CHECK.due("root of 2, to 1414", root.meets(QUARTER, 0, 1414), false);
        CHECK.due("root of 2, from 1415", root.meets(QUARTER, 1415, 2000), false);
    }

    private static void promise15Unstable() {
        TapLoom loom = chainOf(row(64), row(64, 0, 0, 0, 64));
        CHECK.due("unstable at low", loom.meets(LOW, 0, 10000), false);
        CHECK.due("unstable at the quarter", loom.meets(QUARTER, 0, 10000), false);
        loom.set(1, 4, 63);
        CHECK.due("stable at low", loom.meets(LOW, 0, 10000), true);
        loom.set(0, 3, 64);
        CHECK.due("the first is unstable", loom.meets(LOW, 0, 10000), false);
        loom.chain(0);
        CHECK.due("without it", loom.meets(LOW, 0, 10000), true);
    }

    private static void promise15Refuses() {
        TapLoom loom = chainOf(row(64), row(64), row(64));
        CHECK.refusesArgument("where -1", () -> loom.meets(-1, 0, 0));
        CHECK.refusesArgument("where 3", () -> loom.meets(3, 0, 0));
        CHECK.refusesArgument("low -1", () -> loom.meets(LOW, -1, 0));
        CHECK.refusesArgument("low 10001", () -> loom.meets(LOW, 10001, 10001));
        CHECK.refusesArgument("high below low", () -> loom.meets(LOW, 500, 499));
        CHECK.refusesArgument("high 10001", () -> loom.meets(LOW, 0, 10001));
        CHECK.refusesArgument("low first at the quarter", () -> loom.meets(QUARTER, -1, 0));
        CHECK.refusesState("three at the quarter", () -> loom.meets(QUARTER, 0, 0));
        CHECK.due("three at low", loom.meets(LOW, 1000, 1000), true);
        loom.section(0);
        loom.chain(3);
        CHECK.due("four at high", loom.meets(HIGH, 1000, 1000), true);
        loom.section(0);
        loom.chain(4);
        CHECK.refusesState("five at high", () -> loom.meets(HIGH, 0, 0));
        loom.set(0, 4, 64);
        CHECK.refusesState("five, unstable", () -> loom.meets(LOW, 0, 0));
    }
}
