/** Promise 14, gain, with the products that the Terms tell. */
final class Promise14GainTest {
    private static final int LOW = TapLoom.LOW, HIGH = TapLoom.HIGH, QUARTER = TapLoom.QUARTER;

    private static final Kit KIT = new Kit();

    public static void main(String[] args) {
        low();
        high();
        quarter();
        products();
        small();
        noDivisor();
        most();
        lengths();
        refused();
        changesNothing();
        KIT.end();
    }

    private static void gainIs(String title, int where, long number, long divisor, int[]... rows) {
        KIT.test(title, () -> KIT.are("gain", Looms.gain(Looms.chainOf(rows), where), number, divisor));
    }

    private static int[] row(int... coefficients) {
        return coefficients;
    }

    private static void low() {
        gainIs("Promise 14, Terms 'at low (b0, b1 and b2) by (64, a1 and a2)': 22 by 69", LOW, 22, 69,
                row(10, 7, 5, 3, 2));
        gainIs("Promise 14, Terms 'at low': each number counts with its sign", LOW, 5 - 20 + 3, 64 - 11 + 6,
                row(5, -20, 3, -11, 6));
        gainIs("Promise 14, Terms 'at low': as a section is made it is 1 by 1", LOW, 1, 1, row());
    }

    private static void high() {
        gainIs("Promise 14, Terms 'at high (b0 less b1 and b2) by (64 less a1 and a2), b2 and a2 added': 8 by 63",
                HIGH, 8, 63, row(10, 7, 5, 3, 2));
        gainIs("Promise 14, Terms 'at high': each number counts with its sign", HIGH, 5 + 20 + 3, 64 + 11 + 6,
                row(5, -20, 3, -11, 6));
        gainIs("Promise 14, Terms 'at high': as a section is made it is 1 by 1", HIGH, 1, 1, row());
    }

    private static void quarter() {
        gainIs("Promise 14, Terms 'at the quarter, squared: (b0 less b2)^2 and b1^2 by (64 less a2)^2 and a1^2': "
                + "74 by 3853", QUARTER, 74, 3853, row(10, 7, 5, 3, 2));
        gainIs("Promise 14, Terms 'at the quarter': b0 less b2 alone, below 0", QUARTER, 441, 4096,
                row(20, 0, 41));
        gainIs("Promise 14, Terms 'at the quarter': b1 and a1 below 0 count as above it", QUARTER, 74, 3853,
                row(10, -7, 5, -3, 2));
        gainIs("Promise 14, Terms 'at the quarter': a2 below 0 is added to 64", QUARTER, 1, 10000,
                row(1, 0, 0, 0, -36));
        gainIs("Promise 14, Terms 'at the quarter': as a section is made it is 1 by 1", QUARTER, 1, 1, row());
    }

    private static void products() {
        gainIs("Promise 14, Terms 'the product, over its sections': of two at low", LOW, 22 * 5, 69 * 67,
                row(10, 7, 5, 3, 2), row(5, 0, 0, 1, 2));
        gainIs("Promise 14, Terms 'the product, over its sections': of two at high", HIGH, 8 * 5, 63 * 67,
                row(10, 7, 5, 3, 2), row(5, 0, 0, -1, 2));
        gainIs("Promise 14, Terms 'the product, over its sections': of two at the quarter", QUARTER,
                74 * 9 / 2, 3853L * 4100 / 2, row(10, 7, 5, 3, 2), row(3, 0, 0, 2, 0));
        gainIs("Promise 14, Terms 'the product, over its sections': of four at low", LOW,
                3L * 5 * 7 * 11, 64L * 64 * 64 * 64, row(3), row(5), row(7), row(11));
        KIT.test("Promise 14, 'the gain of the chain': sections outside do not count", () -> {
            TapLoom loom = Looms.chainOf(row(3), row(5));
            Looms.add(loom, 0, 7, 7, 7, 7, 7);
            KIT.are("gain", Looms.gain(loom, LOW), 15, 4096);
            loom.chain(0);
            KIT.are("without the first one", Looms.gain(loom, LOW), 5, 64);
            loom.chain(1);
            KIT.are("without any", Looms.gain(loom, LOW), 1, 1);
        });
        KIT.test("Promise 14, 'the gain of the chain': of an empty one it is 1 by 1, at all three", () -> {
            for (int where = LOW; where <= QUARTER; where++) {
                KIT.are("gain at " + where, Looms.gain(new TapLoom(), where), 1, 1);
            }
        });
        KIT.test("Promise 14, Terms 'A section changes in the chain with its numbers'", () -> {
            TapLoom loom = Looms.chainOf(row(3));
            loom.set(0, Looms.B1, 2);
            loom.set(0, Looms.A1, -1);
            KIT.are("gain", Looms.gain(loom, LOW), 5, 63);
        });
    }

    private static void small() {
        gainIs("Promise 14, 'made as small as can be': 16 by 64 is 1 by 4", LOW, 1, 4, row(16));
        gainIs("Promise 14, 'made as small as can be': across sections, 10 by 64 and 64 by 10 is 1 by 1", LOW, 1, 1,
                row(10), row(64, 0, 0, 0, -54));
        gainIs("Promise 14, 'made as small as can be': a whole number by 1", LOW, 3, 1, row(96, 96));
        gainIs("Promise 14, 'made as small as can be': nothing in common stays", LOW, 127, 126,
                row(127, 0, 0, 62, 0));
        gainIs("Promise 14, 'made as small as can be': at the quarter, 32 by 64 squared is 1 by 4", QUARTER, 1, 4,
                row(32));
        gainIs("Promise 14, 'made as small as can be': 0 is 0 by 1", LOW, 0, 1, row(5, -10, 5, 3, 4));
        gainIs("Promise 14, 'made as small as can be': 0 at the quarter is 0 by 1", QUARTER, 0, 1, row(9, 0, 9, 3, 4));
        gainIs("Promise 14, 'with a divisor above 0': 64 by -36 is -16 by 9", LOW, -16, 9, row(64, 0, 0, 0, -100));
        gainIs("Promise 14, 'with a divisor above 0': -64 by -36 is 16 by 9", LOW, 16, 9, row(-64, 0, 0, 0, -100));
        gainIs("Promise 14, 'with a divisor above 0': -32 by 64 is -1 by 2", HIGH, -1, 2, row(-32));
        gainIs("Promise 14, 'with a divisor above 0': 0 by -36 is 0 by 1", LOW, 0, 1, row(0, 0, 0, 0, -100));
        gainIs("Promise 14, 'with a divisor above 0': -36 by -36 squared is 1 by 1", LOW, 1, 1,
                row(-36, 0, 0, 0, -100), row(-36, 0, 0, 0, -100));
        gainIs("Promise 14, 'with a divisor above 0': 5 by -36 is -5 by 36, with nothing in common", LOW, -5, 36,
                row(5, 0, 0, 0, -100));
        gainIs("Promise 14, 'with a divisor above 0': 5 by -1 is -5 by 1", LOW, -5, 1, row(5, 0, 0, -65, 0));
        gainIs("Promise 14, 'with a divisor above 0': -1 by -1 is 1 by 1", LOW, 1, 1, row(-1, 0, 0, -65, 0));
        gainIs("Promise 14, 'with a divisor above 0': at high too, 5 by -1 is -5 by 1", HIGH, -5, 1,
                row(5, 0, 0, 65, 0));
        gainIs("Promise 14, 'with a divisor above 0': 5 by -36 by 3 by -36", LOW, 5, 432,
                row(5, 0, 0, 0, -100), row(3, 0, 0, 0, -100));
    }

    private static void noDivisor() {
        gainIs("Promise 14, '1 by 0, if the divisor is 0': a number above 0", LOW, 1, 0, row(5, 0, 0, -64, 0));
        gainIs("Promise 14, '1 by 0, whatever the other number is': one below 0", LOW, 1, 0, row(-5, 0, 0, -64, 0));
        gainIs("Promise 14, '1 by 0, whatever the other number is': 0", LOW, 1, 0, row(0, 0, 0, -64, 0));
        gainIs("Promise 14, '1 by 0, if the divisor is 0': at high", HIGH, 1, 0, row(-5, 0, 0, 64, 0));
        gainIs("Promise 14, '1 by 0, if the divisor is 0': at the quarter", QUARTER, 1, 0, row(7, 0, 0, 0, 64));
        gainIs("Promise 14, '1 by 0, whatever the other number is': 0 at the quarter", QUARTER, 1, 0,
                row(0, 0, 0, 0, 64));
        gainIs("Promise 14, '1 by 0, if the divisor is 0': of the first section alone", LOW, 1, 0,
                row(7, 0, 0, -64, 0), row(3, 0, 0, -7, 0));
        gainIs("Promise 14, '1 by 0, if the divisor is 0': of the last section alone, with 0 in the first", LOW, 1, 0,
                row(0), row(3), row(5), row(7, 0, 0, -127, 63));
        gainIs("Promise 14, '1 by 0, if the divisor is 0': not where it is one beside 0", LOW, 64, 1,
                row(64, 0, 0, -63, 0));
    }

    private static void most() {
        int[] great = row(127, 127, 127, 3, 4);
        gainIs("Promise 14, 'Returns the number': the greatest one at low, 381 four times, by 71 four times", LOW,
                381L * 381 * 381 * 381, 71L * 71 * 71 * 71, great, great, great, great);
        gainIs("Promise 14, 'Returns the number': the same below 0", LOW,
                -381L * 381 * 381 * 381, 71L * 71 * 71 * 71, great, row(-127, -127, -127, 3, 4), great, great);
        int[] divided = row(1, -127, 127, 127, 127);
        gainIs("Promise 14, 'Returns the number': the greatest divisor at low, 318 four times", LOW,
                1, 318L * 318 * 318 * 318, divided, divided, divided, divided);
        int[] lesser = row(127, -127, 127, -127, 125);
        gainIs("Promise 14, 'Returns the number': the greatest at high, 381 by 316, four times", HIGH,
                381L * 381 * 381 * 381, 316L * 316 * 316 * 316, lesser, lesser, lesser, lesser);
        // 254 squared and 127 squared is 80645, 63 squared and 8 squared is 4033, prime to it
        int[] square = row(127, 127, -127, 8, 1);
        gainIs("Promise 14, 'Returns the number': the greatest at the quarter, 80645 twice", QUARTER,
                80645L * 80645, 4033L * 4033, square, square);
        // 191 squared and 127 squared is 52610
        int[] under = row(1, 0, 0, 127, -127);
        gainIs("Promise 14, 'Returns the number': the greatest divisor at the quarter, 52610 twice", QUARTER,
                1, 52610L * 52610, under, under);
    }

    private static void lengths() {
        for (int where : new int[] {LOW, HIGH}) {
            KIT.test("Promise 14, 'IllegalStateException if the chain has more than 4 sections': 4 at " + where
                    + " are not more", () ->
                    KIT.are("gain", Looms.gain(Looms.chainOfPlain(8, 4), where), 1, 1));
            for (int length : new int[] {5, 8}) {
                KIT.refused("Promise 14, 'IllegalStateException if the chain has more than 4 sections': " + length
                        + " at " + where + ", the number", Kit.STATE, () -> Looms.busyChain(length),
                        loom -> loom.gain(where, false));
                KIT.refused("Promise 14, 'IllegalStateException if the chain has more than 4 sections': " + length
                        + " at " + where + ", the divisor", Kit.STATE, () -> Looms.busyChain(length),
                        loom -> loom.gain(where, true));
            }
        }
        KIT.test("Promise 14, 'or, at the QUARTER, more than 2': 2 are not more", () ->
                KIT.are("gain", Looms.gain(Looms.chainOfPlain(8, 2), QUARTER), 1, 1));
        for (int length : new int[] {3, 4, 5, 8}) {
            KIT.refused("Promise 14, 'or, at the QUARTER, more than 2': " + length + ", the number", Kit.STATE,
                    () -> Looms.busyChain(length), loom -> loom.gain(QUARTER, false));
            KIT.refused("Promise 14, 'or, at the QUARTER, more than 2': " + length + ", the divisor", Kit.STATE,
                    () -> Looms.busyChain(length), loom -> loom.gain(QUARTER, true));
        }
        KIT.test("Promise 14, 'IllegalStateException if the chain has more': not when one is taken out", () -> {
            TapLoom loom = Looms.chainOfPlain(5, 5);
            KIT.throwsDue(Kit.STATE, loom, x -> x.gain(LOW, true));
            loom.chain(2);
            KIT.are("gain of 4", Looms.gain(loom, LOW), 1, 1);
        });
        KIT.refused("Promise 14, 'IllegalStateException if the chain has more': also where the divisor would be 0",
                Kit.STATE, () -> {
                    TapLoom loom = Looms.busyChain(5);
                    loom.set(2, Looms.A1, -64);
                    loom.set(2, Looms.A2, 0);
                    return loom;
                }, loom -> loom.gain(LOW, true));
    }

    private static void refused() {
        KIT.refusedBeyond("Promise 14, 'IllegalArgumentException if where is out of range', 'LOW to QUARTER', number",
                Kit.ARGUMENT, Looms::busy, LOW, QUARTER, (loom, where) -> loom.gain(where, false));
        KIT.refusedBeyond("Promise 14, 'IllegalArgumentException if where is out of range', 'LOW to QUARTER', divisor",
                Kit.ARGUMENT, Looms::busy, LOW, QUARTER, (loom, where) -> loom.gain(where, true));
        KIT.refusedBeyond("Promise 14, with Terms 'the one that is named first': where, with 5 sections",
                Kit.ARGUMENT, () -> Looms.busyChain(5), LOW, QUARTER, (loom, where) -> loom.gain(where, true));
    }

    private static void changesNothing() {
        for (int where = LOW; where <= QUARTER; where++) {
            int asked = where;
            KIT.asks("Promise 14, with Terms 'Questions change nothing': the number at " + where, Looms::busy,
                    loom -> loom.gain(asked, false));
            KIT.asks("Promise 14, with Terms 'Questions change nothing': the divisor at " + where, Looms::busy,
                    loom -> loom.gain(asked, true));
        }
    }
}
