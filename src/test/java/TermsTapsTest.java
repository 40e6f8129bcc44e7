/** The Terms of taps and tones: the design tap by tap, and the answers that come of it. */
final class TermsTapsTest {
    // 28 to the power of 32 less t, by 97
    private static final int[] TURNED = {1, 52, 85, 55, 47, 19, 18, 63, 75, 20, 70, 51, 33, 67, 89, 69};

    private static final Kit KIT = new Kit();

    public static void main(String[] args) {
        tones();
        design();
        answered();
        KIT.end();
    }

    private static void tones() {
        KIT.test("Terms, taps (Promises 8 and 9): 'There are the tones 0 to 31', 'A row has 32 taps'", () -> {
            TapLoom loom = new TapLoom();
            KIT.is("the last tap", loom.tap(31, 1), 0);
            KIT.is("the last tone", loom.ask(31, 1), 0);
            KIT.throwsDue(Kit.INDEX, loom, x -> x.tap(32, 1));
            KIT.throwsDue(Kit.INDEX, loom, x -> x.ask(32, 1));
        });
        KIT.test("Terms, taps (Promise 18): no two tones have the same root, only tone 0 has 1", () -> {
            TapLoom loom = new TapLoom();
            loom.tap(1, 1);
            boolean[] seen = new boolean[Looms.PRIME];
            for (int tone = 0; tone < Looms.TAPS; tone++) {
                int root = loom.answer(tone);
                KIT.is("the root of " + tone + " was seen", seen[root], false);
                seen[root] = true;
            }
            KIT.is("tone 0", loom.answer(0), 1);
        });
    }

    private static void design() {
        KIT.test("Terms, taps (Promise 10): 'the root of the tone k, (32 less t) times', tone 1 asked for 32", () -> {
            TapLoom loom = new TapLoom();
            loom.ask(1, 32);
            loom.design();
            for (int t = 0; t < 16; t++) {
                KIT.is("tapOf(" + t + ")", loom.tapOf(t), TURNED[t]);
                KIT.is("tapOf(" + (t + 16) + ")", loom.tapOf(t + 16), 97 - TURNED[t]);
            }
        });
        KIT.test("Terms, taps (Promise 10): 'the root of the tone k', tone 31 asked for 32 is the other way round", () -> {
            TapLoom loom = new TapLoom();
            loom.ask(31, 32);
            loom.design();
            KIT.is("tapOf(0)", loom.tapOf(0), 1);
            for (int t = 1; t < 16; t++) {
                KIT.is("tapOf(" + (32 - t) + ")", loom.tapOf(32 - t), TURNED[t]);
                KIT.is("tapOf(" + (16 - t) + ")", loom.tapOf(16 - t), 97 - TURNED[t]);
            }
        });
        KIT.test("Terms, taps (Promise 10): 'the root of the tone k', tone 16 asked for 32 goes from 1 to -1", () -> {
            TapLoom loom = new TapLoom();
            loom.ask(16, 32);
            loom.design();
            for (int t = 0; t < Looms.TAPS; t++) {
                KIT.is("tapOf(" + t + ")", loom.tapOf(t), t % 2 == 0 ? 1 : 96);
            }
        });
        KIT.test("Terms, taps (Promise 10): 'times the number of which 32 times is 1', which is 94", () -> {
            TapLoom loom = new TapLoom();
            loom.ask(0, 1);
            loom.design();
            for (int t = 0; t < Looms.TAPS; t++) {
                KIT.is("tapOf(" + t + ")", loom.tapOf(t), 94);
            }
        });
        KIT.test("Terms, taps (Promise 10): 'the sum, over all tones k', of two tones asked for 32", () -> {
            TapLoom loom = new TapLoom();
            loom.ask(0, 32);
            loom.ask(1, 32);
            loom.design();
            for (int t = 0; t < 16; t++) {
                KIT.is("tapOf(" + t + ")", loom.tapOf(t), (1 + TURNED[t]) % 97);
                KIT.is("tapOf(" + (t + 16) + ")", loom.tapOf(t + 16), (1 + 97 - TURNED[t]) % 97);
            }
        });
        KIT.test("Terms, taps (Promise 10): 'the sum, over all tones k', the greatest, all asked for 96", () -> {
            TapLoom loom = new TapLoom();
            for (int k = 0; k < Looms.TAPS; k++) {
                loom.ask(k, 96);
            }
            loom.design();
            for (int t = 0; t < Looms.TAPS; t++) {
                KIT.is("tapOf(" + t + ")", loom.tapOf(t), t == 0 ? 96 : 0);
            }
        });
        KIT.test("Terms, taps (Promise 10): '0 at first', a design of nothing asked has taps of 0", () -> {
            TapLoom loom = new TapLoom();
            for (int t = 0; t < Looms.TAPS; t++) {
                loom.tap(t, 5);
            }
            KIT.is("design()", loom.design(), 32);
            for (int t = 0; t < Looms.TAPS; t++) {
                KIT.is("tapOf(" + t + ")", loom.tapOf(t), 0);
            }
        });
    }

    private static void answered() {
        for (int step : new int[] {0, 1, 5, 96}) {
            KIT.test("Terms, taps (Promises 10 and 18): 'the answer to each tone is that which was asked', kind " + step,
                    () -> {
                TapLoom loom = new TapLoom();
                for (int k = 0; k < Looms.TAPS; k++) {
                    loom.ask(k, (k * k * step + 3 * k + 11) % 97);
                }
                loom.design();
                for (int k = 0; k < Looms.TAPS; k++) {
                    KIT.is("answer(" + k + ")", loom.answer(k), (k * k * step + 3 * k + 11) % 97);
                    KIT.is("answerAnew(" + k + ")", loom.answerAnew(k), (k * k * step + 3 * k + 11) % 97);
                }
            });
        }
        KIT.test("Terms, taps (Promises 9, 10 and 18): 'that which was asked', below 0 it is the remainder", () -> {
            TapLoom loom = new TapLoom();
            loom.ask(2, -96);
            loom.ask(3, -1);
            loom.design();
            KIT.is("answer(2)", loom.answer(2), 1);
            KIT.is("answer(3)", loom.answer(3), 96);
            KIT.is("answer(4)", loom.answer(4), 0);
        });
    }
}
