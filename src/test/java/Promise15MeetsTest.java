/** Promise 15, meets, with the bounds that the Terms tell. */
final class Promise15MeetsTest {
    private static final int LOW = TapLoom.LOW, HIGH = TapLoom.HIGH, QUARTER = TapLoom.QUARTER;

    private static final Kit KIT = new Kit();

    public static void main(String[] args) {
        justSo();
        eitherWay();
        quarter();
        ends();
        stable();
        lengths();
        refused();
        changesNothing();
        KIT.end();
    }

    private static void meetsIs(String title, boolean due, int where, int low, int high, int[]... rows) {
        KIT.test("Promise 15, " + title + ": " + due, () ->
                KIT.is("meets", Looms.chainOf(rows).meets(where, low, high), due));
    }

    private static int[] row(int... coefficients) {
        return coefficients;
    }

    private static void justSo() {
        int[] half = row(32);
        for (int where = LOW; where <= QUARTER; where++) {
            String of = "a half at " + where;
            meetsIs("Terms 'from the first to the second one, just so', " + of + " from 500 to 500",
                    true, where, 500, 500, half);
            meetsIs("Terms 'from the first to the second one, just so', " + of + " from 500 to 501",
                    true, where, 500, 501, half);
            meetsIs("Terms 'from the first to the second one, just so', " + of + " from 499 to 500",
                    true, where, 499, 500, half);
            meetsIs("Terms 'from the first to the second one', " + of + " from 501 to 10000",
                    false, where, 501, 10000, half);
            meetsIs("Terms 'from the first to the second one', " + of + " from 0 to 499",
                    false, where, 0, 499, half);
        }
        int[] third = row(32, 0, 0, 32, 0);
        meetsIs("Terms 'in thousandths', a third is not rounded down to 333", false, LOW, 0, 333, third);
        meetsIs("Terms 'in thousandths', a third is not rounded up to 334", false, LOW, 334, 10000, third);
        meetsIs("Terms 'in thousandths', a third is between 333 and 334", true, LOW, 333, 334, third);
        int[] twoThirds = row(64, 0, 0, 32, 0);
        meetsIs("Terms 'in thousandths', two thirds are not rounded up to 667", false, LOW, 667, 10000, twoThirds);
        meetsIs("Terms 'in thousandths', two thirds are not rounded down to 666", false, LOW, 0, 666, twoThirds);
        // 1 by 189, four times: less than a thousandth by far, but above 0
        int[] tiny = row(1, 0, 0, 63, 62);
        meetsIs("Terms 'in thousandths', a gain just above 0 is not 0", false, LOW, 0, 0, tiny, tiny, tiny, tiny);
        meetsIs("Terms 'in thousandths', a gain just above 0 is below 1", true, LOW, 0, 1, tiny, tiny, tiny, tiny);
    }

    private static void eitherWay() {
        meetsIs("Terms 'the gain, either way', minus a half from 500 to 500", true, LOW, 500, 500, row(-32));
        meetsIs("Terms 'the gain, either way', minus a half from 0 to 499", false, LOW, 0, 499, row(-32));
        meetsIs("Terms 'the gain, either way', minus a half at high from 500 to 500", true, HIGH, 500, 500, row(-32));
        meetsIs("Terms 'the gain, either way', minus a third from 333 to 334", true, LOW, 333, 334,
                row(-32, 0, 0, 32, 0));
        meetsIs("Terms 'the gain', the product of all sections, a half of a half", true, LOW, 250, 250,
                row(32), row(-32));
        meetsIs("Terms 'the gain', the product of all sections, a half of a half, from 251", false, LOW, 251, 10000,
                row(32), row(-32));
    }

    private static void quarter() {
        int[] root = row(64, 64);
        meetsIs("Terms 'the square of the gain against the squares of the bounds', the root of 2 from 1414 to 1415",
                true, QUARTER, 1414, 1415, root);
        meetsIs("Terms 'the square of the gain against the squares of the bounds', the root of 2 to 1414",
                false, QUARTER, 0, 1414, root);
        meetsIs("Terms 'the square of the gain against the squares of the bounds', the root of 2 from 1415",
                false, QUARTER, 1415, 10000, root);
        int[] fiveByFour = row(64, 48);
        meetsIs("Terms 'at the quarter', 5 by 4 just so", true, QUARTER, 1250, 1250, fiveByFour);
        meetsIs("Terms 'at the quarter', 5 by 4 from 1251", false, QUARTER, 1251, 1563, fiveByFour);
        meetsIs("Terms 'at the quarter', 5 by 4 to 1249", false, QUARTER, 0, 1249, fiveByFour);
        meetsIs("Terms 'at the quarter', 5 by 4 is not held squared against the bounds", false, QUARTER, 1562, 1563,
                fiveByFour);
        meetsIs("Terms 'at the quarter', two sections of 5 by 4 are 25 by 16", true, QUARTER, 1562, 1563,
                fiveByFour, fiveByFour);
        meetsIs("Terms 'at the quarter', a2 of 0 and 32, 3 by 4 of 2", true, QUARTER, 1500, 1500,
                row(48), row(64, 0, 0, 0, 32));
    }

    private static void ends() {
        for (int where = LOW; where <= QUARTER; where++) {
            meetsIs("'low: 0 to 10000', 'high: low to 10000', 0 and 0, of a gain of 0 at " + where,
                    true, where, 0, 0, row(0));
            meetsIs("'low: 0 to 10000', 'high: low to 10000', 1 and 10000, of a gain of 0 at " + where,
                    false, where, 1, 10000, row(0));
            meetsIs("'low: 0 to 10000', 'high: low to 10000', 0 and 0, of a gain of 1 at " + where,
                    false, where, 0, 0);
            meetsIs("'low: 0 to 10000', 'high: low to 10000', 0 and 10000, of a gain of 1 at " + where,
                    true, where, 0, 10000);
        }
        int[] ten = row(64, 64, 32, 0, -48);
        meetsIs("'low: 0 to 10000', 'high: low to 10000', 10000 and 10000, of a gain of 10", true,
                LOW, 10000, 10000, ten);
        meetsIs("'high: low to 10000', 0 and 9999, of a gain of 10", false, LOW, 0, 9999, ten);
        meetsIs("'high: low to 10000', 0 and 10000, of a gain of 161 by 16", false, LOW, 0, 10000,
                row(64, 64, 33, 0, -48));
        int[] tenAtQuarter = row(110, 0, 0, 0, 53);
        meetsIs("'low: 0 to 10000', 'high: low to 10000', 10000 and 10000, of 10 at the quarter", true,
                QUARTER, 10000, 10000, tenAtQuarter);
        meetsIs("'high: low to 10000', 0 and 9999, of 10 at the quarter", false, QUARTER, 0, 9999, tenAtQuarter);
        int[] vast = row(127, 127, 127, -63, 0);
        meetsIs("'high: low to 10000', 0 and 10000, of 381 four times", false, LOW, 0, 10000, vast, vast, vast, vast);
        meetsIs("'high: low to 10000', 0 and 10000, of -381 by 381 three times", false, LOW, 0, 10000,
                row(-127, -127, -127, -63, 0), vast, vast, vast);
        int[] square = row(127, 127, -127, 0, 63);
        meetsIs("'high: low to 10000', 0 and 10000, of the greatest gain at the quarter", false,
                QUARTER, 0, 10000, square, square);
        // the greatest divisors of stable sections: 190 at low, 127 squared and 0 at the quarter
        int[] divided = row(127, 63, 0, 63, 63);
        meetsIs("'low: 0 to 10000', 1000 and 1000, of 190 by 190 four times", true, LOW, 1000, 1000,
                divided, divided, divided, divided);
        int[] under = row(127, 0, 0, 0, -63);
        meetsIs("'low: 0 to 10000', 1000 and 1000, of 127 by 127 at the quarter, twice", true, QUARTER, 1000, 1000,
                under, under);
    }

    private static void stable() {
        for (int where = LOW; where <= QUARTER; where++) {
            meetsIs("Terms 'if all its sections are stable', a2 of 63 at " + where, true, where, 0, 10000,
                    row(1, 0, 0, 0, 63));
            meetsIs("Terms 'if all its sections are stable', a2 of 64 at " + where, false, where, 0, 10000,
                    row(1, 0, 0, 0, 64));
            meetsIs("Terms 'if all its sections are stable', a2 of -64 at " + where, false, where, 0, 10000,
                    row(1, 0, 0, 0, -64));
            meetsIs("Terms 'if all its sections are stable', a1 of 64 at " + where, false, where, 0, 10000,
                    row(1, 0, 0, 64, 0));
            meetsIs("Terms 'if all its sections are stable', the first of two is not, at " + where, false,
                    where, 0, 10000, row(1, 0, 0, 0, 65), row(1));
            meetsIs("Terms 'if all its sections are stable', the last of two is not, at " + where, false,
                    where, 0, 10000, row(1), row(1, 0, 0, 0, 65));
        }
        meetsIs("Terms 'if all its sections are stable', the last of four is not", false, LOW, 0, 10000,
                row(1), row(1), row(1), row(1, 0, 0, -64, 0));
        meetsIs("Terms 'if all its sections are stable', a gain of 0 is not enough", false, LOW, 0, 0,
                row(0, 0, 0, 0, 64));
        meetsIs("Terms 'if all its sections are stable', an empty chain has none that is not", true, LOW, 1000, 1000);
        KIT.test("Promise 15, Terms 'all its sections': those outside the chain do not count", () -> {
            TapLoom loom = Looms.chainOf(row(64), row(64, 0, 0, 0, 64));
            KIT.is("both", loom.meets(LOW, 0, 10000), false);
            loom.chain(1);
            KIT.is("without the second one", loom.meets(LOW, 1000, 1000), true);
        });
        KIT.test("Promise 15, Terms 'A section changes in the chain with its numbers'", () -> {
            TapLoom loom = Looms.chainOf(row(64, 0, 0, 0, 64));
            KIT.is("first", loom.meets(HIGH, 500, 505), false);
            loom.set(0, Looms.A2, 63);
            KIT.is("then", loom.meets(HIGH, 503, 504), true);
        });
    }

    private static void lengths() {
        for (int where : new int[] {LOW, HIGH}) {
            KIT.test("Promise 15, 'IllegalStateException if the chain has more than 4 sections': 4 at " + where
                    + " are not more", () ->
                    KIT.is("meets", Looms.chainOfPlain(8, 4).meets(where, 1000, 1000), true));
            for (int length : new int[] {5, 8}) {
                KIT.refused("Promise 15, 'IllegalStateException if the chain has more than 4 sections': " + length
                        + " at " + where, Kit.STATE, () -> Looms.busyChain(length), asked(where, 0, 10000));
            }
        }
        KIT.test("Promise 15, 'or, at the QUARTER, more than 2': 2 are not more", () ->
                KIT.is("meets", Looms.chainOfPlain(8, 2).meets(QUARTER, 1000, 1000), true));
        for (int length : new int[] {3, 4, 5, 8}) {
            KIT.refused("Promise 15, 'or, at the QUARTER, more than 2': " + length, Kit.STATE,
                    () -> Looms.busyChain(length), asked(QUARTER, 0, 10000));
        }
        KIT.refused("Promise 15, 'IllegalStateException if the chain has more': also if one is not stable",
                Kit.STATE, () -> {
                    TapLoom loom = Looms.busyChain(5);
                    loom.set(2, Looms.A2, 64);
                    return loom;
                }, asked(LOW, 0, 0));
    }

    private static Kit.Call asked(int where, int low, int high) {
        return loom -> loom.meets(where, low, high) ? 1 : 0;
    }

    private static void refused() {
        KIT.refusedBeyond("Promise 15, 'IllegalArgumentException if where is out of range', 'LOW to QUARTER'",
                Kit.ARGUMENT, Looms::busy, LOW, QUARTER, (loom, where) -> asked(where, 0, 0).on(loom));
        for (int where = LOW; where <= QUARTER; where++) {
            int at = where;
            KIT.refusedBeyond("Promise 15, 'IllegalArgumentException if low is out of range', '0 to 10000', at "
                    + where, Kit.ARGUMENT, Looms::busy, 0, 10000,
                    (loom, low) -> asked(at, low, 10000).on(loom));
            KIT.refusedBeyond("Promise 15, 'IllegalArgumentException if high is out of range', 'low to 10000', at "
                    + where, Kit.ARGUMENT, Looms::busy, 500, 10000,
                    (loom, high) -> asked(at, 500, high).on(loom));
        }
        KIT.refused("Promise 15, 'low: 0 to 10000': low and high of 10001", Kit.ARGUMENT, Looms::busy,
                asked(LOW, 10001, 10001));
        KIT.refused("Promise 15, 'low: 0 to 10000': low and high of -1", Kit.ARGUMENT, Looms::busy,
                asked(LOW, -1, -1));
        KIT.refused("Promise 15, 'high: low to 10000': high of 0 with low of 1", Kit.ARGUMENT, Looms::busy,
                asked(HIGH, 1, 0));
        KIT.refused("Promise 15, 'high: low to 10000': high of 9999 with low of 10000", Kit.ARGUMENT, Looms::busy,
                asked(HIGH, 10000, 9999));
        KIT.refused("Promise 15, with Terms 'the one that is named first': where, with 5 sections", Kit.ARGUMENT,
                () -> Looms.busyChain(5), asked(3, 0, 0));
        KIT.refused("Promise 15, with Terms 'the one that is named first': low, with 5 sections", Kit.ARGUMENT,
                () -> Looms.busyChain(5), asked(LOW, -1, 0));
        KIT.refused("Promise 15, with Terms 'the one that is named first': high, with 5 sections", Kit.ARGUMENT,
                () -> Looms.busyChain(5), asked(HIGH, 0, 10001));
        KIT.refused("Promise 15, with Terms 'the one that is named first': high below low, with 3 at the quarter",
                Kit.ARGUMENT, () -> Looms.busyChain(3), asked(QUARTER, 5, 4));
        KIT.refused("Promise 15, 'IllegalArgumentException': high, though a section is not stable", Kit.ARGUMENT,
                () -> Looms.chainOf(row(1, 0, 0, 0, 64)), asked(LOW, 0, 10001));
    }

    private static void changesNothing() {
        for (int where = LOW; where <= QUARTER; where++) {
            KIT.asks("Promise 15, with Terms 'Whether a chain meets bounds is asked, and told just so. "
                    + "Questions change nothing': at " + where, Looms::busy, asked(where, 0, 500));
        }
    }
}
