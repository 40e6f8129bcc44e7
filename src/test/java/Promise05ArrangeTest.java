/** Promise 5, arrange, with the order that the Terms tell. */
final class Promise05ArrangeTest {
    private static final Kit KIT = new Kit();

    public static void main(String[] args) {
        byA2();
        byA1();
        byNumbers();
        counts();
        leaves();
        KIT.end();
    }

    /** Sections with these a1 and a2 in the chain, arranged: how many have moved, and the order then. */
    private static void arranged(String title, int moved, long[] order, int[]... pairs) {
        KIT.test(title, () -> {
            TapLoom loom = Looms.feedbacks(pairs);
            KIT.is("arrange()", loom.arrange(), moved);
            KIT.are("the chain", Looms.order(loom, pairs.length), order);
        });
    }

    private static int[] a(int a1, int a2) {
        return new int[] {a1, a2};
    }

    private static long[] order(long... numbers) {
        return numbers;
    }

    private static void byA2() {
        arranged("Promise 5, Terms 'by a2, the lesser first': two the other way round", 2,
                order(1, 0), a(0, 1), a(0, 0));
        arranged("Promise 5, Terms 'by a2, the lesser first': below 0 is lesser, not taken either way", 3,
                order(1, 2, 0), a(0, 5), a(0, -9), a(0, -1));
        arranged("Promise 5, Terms 'by a2, the lesser first': its ends, -127 and 127", 3,
                order(1, 2, 0), a(0, 127), a(0, -127), a(0, 0));
        arranged("Promise 5, Terms 'by a2, the lesser first': a1 does not count against it", 2,
                order(1, 0), a(0, 3), a(127, 2));
        arranged("Promise 5, Terms 'by a2, the lesser first': all 8, the other way round", 8,
                order(7, 6, 5, 4, 3, 2, 1, 0), a(0, 40), a(0, 30), a(0, 20), a(0, 10), a(0, 0),
                a(0, -10), a(0, -20), a(0, -30));
    }

    private static void byA1() {
        arranged("Promise 5, Terms 'of the same by a1, the lesser first': two the other way round", 2,
                order(1, 0), a(8, 4), a(7, 4));
        arranged("Promise 5, Terms 'by a1, either way': -3 is behind 2, -1 ahead of it", 2,
                order(2, 1, 0), a(-3, 4), a(2, 4), a(-1, 4));
        arranged("Promise 5, Terms 'by a1, either way': its ends, -127 and 127, behind 126 and -126", 4,
                order(2, 3, 0, 1), a(-127, 0), a(127, 0), a(126, 0), a(-126, 0));
        arranged("Promise 5, Terms 'of the same by a1': only of the same a2", 0,
                order(0, 1), a(9, 1), a(1, 2));
    }

    private static void byNumbers() {
        arranged("Promise 5, Terms 'of the same by numbers': -5 and 5 are the same", 0,
                order(0, 1, 2), a(5, 1), a(-5, 1), a(5, 1));
        KIT.test("Promise 5, Terms 'of the same by numbers': the chain had them the other way round", () -> {
            TapLoom loom = Looms.sections(8);
            for (int s = 7; s >= 0; s--) {
                loom.chain(s);
            }
            KIT.is("arrange()", loom.arrange(), 8);
            KIT.are("the chain", Looms.order(loom, 8), 0, 1, 2, 3, 4, 5, 6, 7);
        });
        KIT.test("Promise 5, Terms 'of the same by numbers': a1 of 5 and -5 the other way round", () -> {
            TapLoom loom = Looms.sections(2);
            loom.set(0, Looms.A1, -5);
            loom.set(1, Looms.A1, 5);
            loom.chain(1);
            loom.chain(0);
            KIT.is("arrange()", loom.arrange(), 2);
            KIT.are("the chain", Looms.order(loom, 2), 0, 1);
        });
        KIT.test("Promise 5, Terms 'by a2', then a1, then numbers: all three in one chain", () -> {
            TapLoom loom = new TapLoom();
            int[][] pairs = {{5, 10}, {-9, -3}, {-4, 10}, {-5, 10}, {0, 10}, {4, 10}, {9, -3}, {0, -3}};
            for (int[] pair : pairs) {
                Looms.add(loom, 0, 64, 0, 0, pair[0], pair[1]);
            }
            for (int s = 7; s >= 0; s--) {
                loom.chain(s);
            }
            // 7 6 5 4 3 2 1 0 becomes this: all but 7 and 4 have another place
            KIT.is("arrange()", loom.arrange(), 6);
            KIT.are("the chain", Looms.order(loom, 8), 7, 1, 6, 4, 2, 5, 0, 3);
        });
    }

    private static void counts() {
        KIT.test("Promise 5, 'returns how many have another place': 0 of an empty chain", () -> {
            KIT.is("without sections", new TapLoom().arrange(), 0);
            KIT.is("with sections outside", Looms.sections(8).arrange(), 0);
        });
        arranged("Promise 5, 'returns how many have another place': 0 of one", 0, order(0), a(9, 9));
        arranged("Promise 5, 'returns how many have another place': 0, if it is in order", 0,
                order(0, 1, 2), a(0, -5), a(0, 0), a(0, 5));
        arranged("Promise 5, 'returns how many have another place': one that stays in the middle does not count", 2,
                order(2, 1, 0), a(0, 3), a(0, 2), a(0, 1));
        arranged("Promise 5, 'returns how many have another place': the last goes to the front, all 4 move", 4,
                order(3, 0, 1, 2), a(0, 1), a(0, 2), a(0, 3), a(0, 0));
        arranged("Promise 5, 'returns how many have another place': two beside each other of four", 2,
                order(0, 2, 1, 3), a(0, 1), a(0, 3), a(0, 2), a(0, 4));
        KIT.test("Promise 5, 'returns how many have another place': 0, if it is arranged again", () -> {
            TapLoom loom = Looms.feedbacks(a(3, 3), a(2, 2), a(1, 1));
            KIT.is("arrange()", loom.arrange(), 2);
            KIT.is("arrange() again", loom.arrange(), 0);
        });
        KIT.test("Promise 5, 'Arranges the chain': by the numbers of now, not by those of before", () -> {
            TapLoom loom = Looms.feedbacks(a(0, 1), a(0, 2), a(0, 3));
            loom.set(1, Looms.A2, 4);
            KIT.are("not yet", Looms.order(loom, 3), 0, 1, 2);
            KIT.is("arrange()", loom.arrange(), 2);
            KIT.are("the chain", Looms.order(loom, 3), 0, 2, 1);
        });
    }

    private static void leaves() {
        KIT.test("Promise 5, 'Arranges the chain': sections outside stay outside", () -> {
            TapLoom loom = Looms.feedbacks(a(0, 3), a(0, 2), a(0, 1));
            loom.chain(1);
            KIT.is("arrange()", loom.arrange(), 2);
            KIT.is("the place of 1", loom.of(1, Looms.PLACE), TapLoom.NONE);
            KIT.are("the chain", Looms.order(loom, 3), 2, 0);
        });
        KIT.test("Promise 5, 'Arranges the chain': one put in afterwards goes to the end", () -> {
            TapLoom loom = Looms.feedbacks(a(0, 3), a(0, 2), a(0, -9));
            loom.chain(2);
            loom.arrange();
            loom.chain(2);
            KIT.are("the chain", Looms.order(loom, 3), 1, 0, 2);
        });
        KIT.test("Promise 5, with Terms 'keeps its x1, x2, y1 and y2': each goes on with its own", () -> {
            TapLoom loom = new TapLoom();
            Looms.add(loom, 0, 64, 0, 64, 0, 1);
            Looms.add(loom, 0, 32, 0, 0, 0, 0);
            loom.chain(0);
            loom.chain(1);
            Looms.runs(loom, 100, 40);
            KIT.is("arrange()", loom.arrange(), 2);
            KIT.is("y1 of 0", loom.of(0, Looms.Y1), 40);
            KIT.is("y2 of 0", loom.of(0, Looms.Y2), 100);
            KIT.is("y1 of 1", loom.of(1, Looms.Y1), 20);
            KIT.is("y2 of 1", loom.of(1, Looms.Y2), 50);
            // section 1 halves 4, section 0 adds its x2 of 100, less 100 by 64
            KIT.is("the next one", loom.run(4), 100);
            KIT.is("it went through 1 first", loom.of(1, Looms.Y1), 2);
        });
        KIT.test("Promise 5, 'Arranges the chain': outputs, numbers, taps and samples stay", () -> {
            TapLoom loom = Looms.busy();
            long[] before = {loom.output(0), loom.output(4), loom.tapOf(7), loom.sifted(0), loom.of(0, 3)};
            KIT.is("arrange()", loom.arrange(), 2);
            KIT.are("then", new long[] {loom.output(0), loom.output(4), loom.tapOf(7), loom.sifted(0),
                loom.of(0, 3)}, before);
            KIT.is("outputs are kept", loom.rest(), 5);
        });
    }
}
