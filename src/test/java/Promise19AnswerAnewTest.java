/** Promise 19, answerAnew, sentence by sentence. */
final class Promise19AnswerAnewTest {
    private static final Kit KIT = new Kit();

    public static void main(String[] args) {
        same();
        alone();
        range();
        KIT.end();
    }

    private static void same() {
        for (int round = 0; round < 3; round++) {
            int mixed = round;
            KIT.test("Promise 19, 'Returns the same': as answer does, for all tones, taps of kind " + round, () -> {
                TapLoom loom = new TapLoom();
                for (int t = 0; t < Looms.TAPS; t++) {
                    loom.tap(t, (t * t * (mixed + 2) + 7 * t + mixed) % 97 - (t % 2 == 0 ? 0 : 96));
                }
                for (int k = 0; k < Looms.TAPS; k++) {
                    KIT.is("answerAnew(" + k + ")", loom.answerAnew(k), loom.answer(k));
                }
            });
        }
        KIT.test("Promise 19, 'Returns the same': what was asked, after a design", () -> {
            TapLoom loom = new TapLoom();
            for (int k = 0; k < Looms.TAPS; k++) {
                loom.ask(k, k * 3);
            }
            loom.design();
            for (int k = 0; k < Looms.TAPS; k++) {
                KIT.is("answerAnew(" + k + ")", loom.answerAnew(k), k * 3);
            }
        });
        KIT.test("Promise 19, 'Returns the same', 0 to 96: the greatest taps, all of 96", () -> {
            TapLoom loom = new TapLoom();
            for (int tap = 0; tap < Looms.TAPS; tap++) {
                loom.tap(tap, 96);
            }
            KIT.is("tone 0", loom.answerAnew(0), 97 - 32);
            for (int tone = 1; tone < Looms.TAPS; tone++) {
                KIT.is("answerAnew(" + tone + ")", loom.answerAnew(tone), 0);
            }
        });
    }

    private static void alone() {
        KIT.test("Promise 19, 'from the last one on': tap 31 alone", () -> {
            TapLoom loom = new TapLoom();
            loom.tap(31, 1);
            KIT.is("tone 0", loom.answerAnew(0), 1);
            KIT.is("tone 1", loom.answerAnew(1), 52);
            KIT.is("tone 16", loom.answerAnew(16), 96);
            KIT.is("tone 31", loom.answerAnew(31), 28);
        });
        KIT.test("Promise 19, 'the answer is the last one found': tap 0 alone", () -> {
            TapLoom loom = new TapLoom();
            loom.tap(0, 5);
            for (int tone = 0; tone < Looms.TAPS; tone++) {
                KIT.is("answerAnew(" + tone + ")", loom.answerAnew(tone), 5);
            }
        });
        KIT.test("Promise 19, 'less that ahead of it times that number': tap 1 alone is the root", () -> {
            TapLoom loom = new TapLoom();
            loom.tap(1, 1);
            KIT.is("tone 0", loom.answerAnew(0), 1);
            KIT.is("tone 1", loom.answerAnew(1), 28);
            KIT.is("tone 2", loom.answerAnew(2), 8);
            KIT.is("tone 8", loom.answerAnew(8), 22);
            KIT.is("tone 16", loom.answerAnew(16), 96);
            KIT.is("tone 31", loom.answerAnew(31), 52);
        });
        KIT.test("Promise 19, 'the root of the tone, and the number of which the root times is 1': 1 and 96 are "
                + "their own", () -> {
            TapLoom loom = new TapLoom();
            loom.tap(0, 3);
            loom.tap(1, 10);
            loom.tap(2, 1);
            KIT.is("tone 0", loom.answerAnew(0), 14);
            KIT.is("tone 16", loom.answerAnew(16), 97 + 3 - 10 + 1);
        });
        KIT.test("Promise 19, 'found anew': the taps of now", () -> {
            TapLoom loom = new TapLoom();
            loom.tap(0, 1);
            KIT.is("first", loom.answerAnew(9), 1);
            loom.tap(0, 0);
            KIT.is("then", loom.answerAnew(9), 0);
        });
    }

    private static void range() {
        KIT.test("Promise 19, 'tone: 0 to 31': its ends are taken", () -> {
            TapLoom loom = new TapLoom();
            loom.tap(2, 1);
            KIT.is("answerAnew(0)", loom.answerAnew(0), 1);
            KIT.is("answerAnew(31)", loom.answerAnew(31), 85);
        });
        KIT.refusedBeyond("Promise 19, 'IndexOutOfBoundsException if there is no such tone', 'tone: 0 to 31'",
                Kit.INDEX, Looms::busy, 0, 31, TapLoom::answerAnew);
        KIT.asks("Promise 19, with Terms 'Questions change nothing': answerAnew(7)", Looms::busy,
                loom -> loom.answerAnew(7));
    }
}
