/** Promises 8 to 11 and 17 to 20: taps, what is asked of them, designs, answers and sifted samples. */
final class TapsTest {
    private static final int TAPS = 32, PRIME = 97;

    private static final Check CHECK = new Check();

    public static void main(String[] args) {
        promise8And17();
        promise9();
        promise10Changes();
        promise10Answers();
        promise11();
        promise18();
        promise19();
        promise20Taps();
        promise20Kept();
        CHECK.end();
    }

    private static void promise8And17() {
        TapLoom loom = new TapLoom();
        CHECK.due("tap 0", loom.tap(0, 96), 0);
        CHECK.due("tap 0 again", loom.tap(0, -96), 96);
        CHECK.due("below 0 it is a remainder", loom.tapOf(0), 1);
        CHECK.due("tap 31", loom.tap(31, -1), 0);
        CHECK.due("tap 31 told", loom.tapOf(31), 96);
        CHECK.due("others stay", loom.tapOf(30), 0);
        CHECK.refusesIndex("tap(-1)", () -> loom.tap(-1, 0));
        CHECK.refusesIndex("tap(32)", () -> loom.tap(32, 0));
        CHECK.refusesIndex("tap(32), all wrong", () -> loom.tap(32, 97));
        CHECK.refusesArgument("value 97", () -> loom.tap(0, 97));
        CHECK.refusesArgument("value -97", () -> loom.tap(0, -97));
        CHECK.due("after refusals", loom.tapOf(0), 1);
        CHECK.refusesIndex("tapOf(-1)", () -> loom.tapOf(-1));
        CHECK.refusesIndex("tapOf(32)", () -> loom.tapOf(32));
    }

    private static void promise9() {
        TapLoom loom = new TapLoom();
        CHECK.due("ask 3", loom.ask(3, -1), 0);
        CHECK.due("ask 3 again", loom.ask(3, 5), 96);
        CHECK.due("ask 31", loom.ask(31, 96), 0);
        CHECK.due("ask 31 again", loom.ask(31, -96), 96);
        CHECK.due("the taps stay", loom.answer(3), 0);
        CHECK.refusesIndex("ask(-1)", () -> loom.ask(-1, 0));
        CHECK.refusesIndex("ask(32)", () -> loom.ask(32, 0));
        CHECK.refusesIndex("ask(32), all wrong", () -> loom.ask(32, -97));
        CHECK.refusesArgument("value 97", () -> loom.ask(3, 97));
        CHECK.refusesArgument("value -97", () -> loom.ask(3, -97));
        CHECK.due("after refusals", loom.ask(3, 0), 5);
    }

    private static void promise10Changes() {
        TapLoom loom = new TapLoom();
        CHECK.due("nothing asked", loom.design(), 0);
        loom.tap(4, 9);
        loom.tap(5, 9);
        CHECK.due("two go back to 0", loom.design(), 2);
        CHECK.due("one of them", loom.tapOf(4), 0);
        for (int k = 0; k < TAPS; k++) {
            loom.ask(k, 7);
        }
        CHECK.due("the same to all is the first tap alone", loom.design(), 1);
        CHECK.due("the first tap", loom.tapOf(0), 7);
        CHECK.due("the second tap", loom.tapOf(1), 0);
        CHECK.due("again", loom.design(), 0);
        loom.tap(0, 6);
        CHECK.due("asked again", loom.design(), 1);
        CHECK.due("asked anew", loom.tapOf(0), 7);
    }

    private static void promise10Answers() {
        TapLoom loom = new TapLoom();
        for (int k = 0; k < TAPS; k++) {
            loom.ask(k, (k * k * 5 + 3 * k + 11) % PRIME);
        }
        loom.design();
        for (int k = 0; k < TAPS; k++) {
            CHECK.due("answer " + k, loom.answer(k), (k * k * 5 + 3 * k + 11) % PRIME);
            CHECK.due("answer anew " + k, loom.answerAnew(k), (k * k * 5 + 3 * k + 11) % PRIME);
        }
        TapLoom one = new TapLoom();
        one.ask(1, 1);
        CHECK.due("one tone, no tap is 0", one.design(), TAPS);
        CHECK.due("tap 0 is a 32nd", one.tapOf(0), 94);
        // 28, 31 times, is 52, as 28 times 52 is 15 times 97, and 1
        CHECK.due("tap 1", one.tapOf(1), 94 * 52 % PRIME);
        CHECK.due("tap 31", one.tapOf(31), 94 * 28 % PRIME);
    }

    private static void promise11() {
        TapLoom loom = new TapLoom();
        CHECK.refusesArgument("sample(97)", () -> loom.sample(97));
        CHECK.refusesArgument("sample(-97)", () -> loom.sample(-97));
        CHECK.due("none came", loom.sifted(0), TapLoom.NONE);
        for (int i = 1; i <= 64; i++) {
            CHECK.due("samples", loom.sample(i), i);
        }
        CHECK.due("64 are kept", loom.sample(-96), 64);
        CHECK.due("64 are kept, again", loom.sample(96), 64);
    }

    private static void promise18() {
        TapLoom loom = new TapLoom();
        loom.tap(0, 3);
        loom.tap(1, 10);
        loom.tap(2, 1);
        CHECK.due("tone 0 sums", loom.answer(0), 14);
        CHECK.due("tone 1", loom.answer(1), (3 + 280 + 784) % PRIME);
        CHECK.due("tone 2", loom.answer(2), (3 + 10 * 784 + 784 * 784) % PRIME);
        CHECK.due("tone 16 changes signs", loom.answer(16), PRIME + 3 - 10 + 1);
        CHECK.due("tone 31 is the other way", loom.answer(31), (3 + 10 * 52 + 52 * 52) % PRIME);
        CHECK.due("the taps stay", loom.tapOf(1), 10);
        for (int t = 0; t < TAPS; t++) {
            loom.tap(t, 96);
        }
        CHECK.due("all taps", loom.answer(0), PRIME - TAPS);
        CHECK.due("all taps, tone 7", loom.answer(7), 0);
        CHECK.refusesIndex("answer(-1)", () -> loom.answer(-1));
        CHECK.refusesIndex("answer(32)", () -> loom.answer(32));
    }

    private static void promise19() {
        TapLoom loom = new TapLoom();
        for (int round = 0; round < 4; round++) {
            for (int t = 0; t < TAPS; t++) {
                loom.tap(t, (t * t * (round + 2) + 7 * t + round) % PRIME - (t % 2 == 0 ? 0 : 96));
            }
            for (int k = 0; k < TAPS; k++) {
                CHECK.due("anew " + k, loom.answerAnew(k), loom.answer(k));
            }
        }
        CHECK.refusesIndex("answerAnew(-1)", () -> loom.answerAnew(-1));
        CHECK.refusesIndex("answerAnew(32)", () -> loom.answerAnew(32));
    }

    private static void promise20Taps() {
        TapLoom loom = new TapLoom();
        loom.tap(0, 2);
        loom.tap(3, 5);
        loom.sample(10);
        CHECK.due("one sample", loom.sifted(0), 20);
        loom.sample(-1);
        CHECK.due("below 0 by 97", loom.sifted(0), 95);
        loom.sample(0);
        loom.sample(1);
        CHECK.due("three ahead", loom.sifted(0), 52);
        CHECK.due("the one before", loom.sifted(1), 0);
        CHECK.due("the first one", loom.sifted(3), 20);
        CHECK.due("not so many", loom.sifted(4), TapLoom.NONE);
        loom.tap(0, 0);
        CHECK.due("with the taps of now", loom.sifted(3), 0);
        CHECK.refusesIndex("sifted(-1)", () -> loom.sifted(-1));
        CHECK.refusesIndex("sifted(min)", () -> loom.sifted(Integer.MIN_VALUE));
        CHECK.due("far back", loom.sifted(Integer.MAX_VALUE), TapLoom.NONE);
    }

    private static void promise20Kept() {
        TapLoom loom = new TapLoom();
        loom.tap(0, 1);
        loom.tap(31, 1);
        for (int i = 1; i <= 70; i++) {
            loom.sample(i);
        }
        CHECK.due("the latest", loom.sifted(0), (70 + 39) % PRIME);
        CHECK.due("the last with 31 ahead", loom.sifted(32), 38 + 7);
        CHECK.due("31 ahead is kept no more", loom.sifted(33), 37);
        CHECK.due("the earliest kept", loom.sifted(63), 7);
        CHECK.due("kept no more", loom.sifted(64), TapLoom.NONE);
        loom.rest();
        CHECK.due("rest is not for samples", loom.sifted(63), 7);
    }
}
