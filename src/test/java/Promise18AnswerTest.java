/** Promise 18, answer, with the sum that the Terms tell. */
final class Promise18AnswerTest {
    // 28, so many times, by 97: worked out by hand from 28, 784 less 776 is 8, 8 times 28 is 224, ...
    private static final int[] ROOTS = {1, 28, 8, 30, 64, 46, 27, 77, 22, 34, 79, 78, 50, 42, 12, 45};

    private static final Kit KIT = new Kit();

    public static void main(String[] args) {
        sums();
        roots();
        range();
        KIT.end();
    }

    private static TapLoom taps(int... values) {
        TapLoom loom = new TapLoom();
        for (int tap = 0; tap < values.length; tap++) {
            loom.tap(tap, values[tap]);
        }
        return loom;
    }

    private static void sums() {
        KIT.test("Promise 18, Terms 'the sum, over all taps t, of the tap times the root, t times': three taps", () -> {
            TapLoom loom = taps(3, 10, 1);
            KIT.is("tone 0", loom.answer(0), 14);
            KIT.is("tone 1", loom.answer(1), (3 + 10 * 28 + 8) % 97);
            KIT.is("tone 2", loom.answer(2), (3 + 10 * 8 + 64) % 97);
            KIT.is("tone 16", loom.answer(16), 97 + 3 - 10 + 1);
            KIT.is("tone 31", loom.answer(31), (3 + 10 * 52 + 52 * 52) % 97);
        });
        KIT.test("Promise 18, Terms 'over all taps t': tap 0 alone is the same for all tones", () -> {
            TapLoom loom = taps(5);
            for (int tone = 0; tone < Looms.TAPS; tone++) {
                KIT.is("answer(" + tone + ")", loom.answer(tone), 5);
            }
        });
        KIT.test("Promise 18, Terms 'over all taps t': tap 31 counts, its root is that of tap 1 turned round", () -> {
            TapLoom loom = new TapLoom();
            loom.tap(31, 1);
            KIT.is("tone 0", loom.answer(0), 1);
            KIT.is("tone 1", loom.answer(1), 52);
            KIT.is("tone 16", loom.answer(16), 96);
            KIT.is("tone 31", loom.answer(31), 28);
        });
        KIT.test("Promise 18, Terms 'the remainders by 97': the greatest taps, all of 96", () -> {
            TapLoom loom = new TapLoom();
            for (int tap = 0; tap < Looms.TAPS; tap++) {
                loom.tap(tap, 96);
            }
            KIT.is("tone 0", loom.answer(0), 97 - 32);
            for (int tone = 1; tone < Looms.TAPS; tone++) {
                KIT.is("answer(" + tone + ")", loom.answer(tone), 0);
            }
        });
        KIT.test("Promise 18, Terms 'the remainders by 97, 0 to 96': a sum of 96, of 97 and of 98", () -> {
            KIT.is("96", taps(48, 48).answer(0), 96);
            KIT.is("97", taps(48, 49).answer(0), 0);
            KIT.is("98", taps(49, 49).answer(0), 1);
        });
        KIT.test("Promise 18, 'the answer of the taps': of those of now, not of those that were asked", () -> {
            TapLoom loom = taps(1);
            loom.ask(4, 50);
            KIT.is("answer(4)", loom.answer(4), 1);
            loom.design();
            KIT.is("answer(4) of the design", loom.answer(4), 50);
            loom.tap(0, 0);
            // the tap 0 was 50 times 94, which is 44
            KIT.is("answer(4) without tap 0", loom.answer(4), 6);
        });
    }

    private static void roots() {
        KIT.test("Promise 18, Terms 'the tone k has the root that is 28 times itself, k times, with 1'", () -> {
            TapLoom loom = new TapLoom();
            loom.tap(1, 1);
            for (int tone = 0; tone < 16; tone++) {
                KIT.is("the root of " + tone, loom.answer(tone), ROOTS[tone]);
                KIT.is("the root of " + (tone + 16), loom.answer(tone + 16), 97 - ROOTS[tone]);
            }
        });
        KIT.test("Promise 18, Terms '28, 32 times, is 1 there': tone 31 and one more come to 1", () -> {
            TapLoom loom = new TapLoom();
            loom.tap(1, 1);
            KIT.is("28 times the root of 31", loom.answer(31) * 28 % 97, 1);
        });
    }

    private static void range() {
        KIT.test("Promise 18, 'tone: 0 to 31': its ends are taken", () -> {
            TapLoom loom = taps(0, 0, 1);
            KIT.is("answer(0)", loom.answer(0), 1);
            // 52 times 52 is 2704, less 27 times 97
            KIT.is("answer(31)", loom.answer(31), 85);
        });
        KIT.refusedBeyond("Promise 18, 'IndexOutOfBoundsException if there is no such tone', 'tone: 0 to 31'",
                Kit.INDEX, Looms::busy, 0, 31, TapLoom::answer);
        KIT.asks("Promise 18, with Terms 'Questions change nothing': answer(7)", Looms::busy,
                loom -> loom.answer(7));
    }
}
