/** Promise 10, design: how many taps are other; the taps themselves stand with the Terms. */
final class Promise10DesignTest {
    private static final Kit KIT = new Kit();

    public static void main(String[] args) {
        counts();
        designs();
        KIT.end();
    }

    private static TapLoom asked(int value) {
        TapLoom loom = new TapLoom();
        for (int tone = 0; tone < Looms.TAPS; tone++) {
            loom.ask(tone, value);
        }
        return loom;
    }

    private static void counts() {
        KIT.test("Promise 10, 'returns how many are other than before': 0 in a new object", () ->
                KIT.is("design()", new TapLoom().design(), 0));
        KIT.test("Promise 10, 'returns how many are other than before': 1, the first tap alone", () ->
                KIT.is("design()", asked(7).design(), 1));
        KIT.test("Promise 10, 'returns how many are other than before': all 32", () -> {
            TapLoom loom = new TapLoom();
            loom.ask(1, 1);
            KIT.is("design()", loom.design(), 32);
        });
        KIT.test("Promise 10, 'returns how many are other than before': 31, if one was so already", () -> {
            TapLoom loom = new TapLoom();
            loom.ask(1, 1);
            loom.tap(0, 94);
            KIT.is("design()", loom.design(), 31);
        });
        KIT.test("Promise 10, 'returns how many are other than before': 0 the second time", () -> {
            TapLoom loom = new TapLoom();
            loom.ask(1, 1);
            loom.ask(31, -1);
            loom.design();
            KIT.is("design() again", loom.design(), 0);
        });
        KIT.test("Promise 10, 'returns how many are other than before': 2 that go back to 0", () -> {
            TapLoom loom = new TapLoom();
            loom.tap(0, 9);
            loom.tap(31, 9);
            loom.tap(5, 0);
            KIT.is("design()", loom.design(), 2);
            KIT.is("tapOf(0)", loom.tapOf(0), 0);
            KIT.is("tapOf(31)", loom.tapOf(31), 0);
        });
        KIT.test("Promise 10, 'other than before': -96 was set, 1 is designed, which is the same", () -> {
            TapLoom loom = asked(1);
            loom.tap(0, -96);
            KIT.is("design()", loom.design(), 0);
        });
    }

    private static void designs() {
        KIT.test("Promise 10, 'Designs the taps': anew, if it is asked for something else", () -> {
            TapLoom loom = asked(7);
            loom.design();
            for (int tone = 0; tone < Looms.TAPS; tone++) {
                loom.ask(tone, 8);
            }
            KIT.is("design()", loom.design(), 1);
            KIT.is("tapOf(0)", loom.tapOf(0), 8);
        });
        KIT.test("Promise 10, 'Designs the taps': by what is asked, whatever the taps were", () -> {
            TapLoom loom = asked(7);
            for (int tap = 0; tap < Looms.TAPS; tap++) {
                loom.tap(tap, tap - 50);
            }
            loom.design();
            KIT.is("tapOf(0)", loom.tapOf(0), 7);
            for (int tap = 1; tap < Looms.TAPS; tap++) {
                KIT.is("tapOf(" + tap + ")", loom.tapOf(tap), 0);
            }
        });
        KIT.test("Promise 10, 'Designs the taps': samples, sections and outputs stay", () -> {
            TapLoom loom = Looms.busy();
            long[] before = {loom.output(0), loom.of(0, 0), loom.of(0, 7)};
            loom.design();
            KIT.are("then", new long[] {loom.output(0), loom.of(0, 0), loom.of(0, 7)}, before);
            KIT.is("samples", loom.sample(0), 6);
            KIT.is("what is asked of tone 7", loom.ask(7, 0), 16);
        });
    }
}
