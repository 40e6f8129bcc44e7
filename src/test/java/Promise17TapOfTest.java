/** Promise 17, tapOf, sentence by sentence. */
final class Promise17TapOfTest {
    private static final Kit KIT = new Kit();

    public static void main(String[] args) {
        for (int end : new int[] {0, 31}) {
            KIT.test("Promise 17, 'tap: 0 to 31': " + end + ", an end, is told", () -> {
                TapLoom loom = new TapLoom();
                loom.tap(end, 8);
                KIT.is("tapOf(" + end + ")", loom.tapOf(end), 8);
            });
        }
        KIT.test("Promise 17, 'Returns a tap': each its own, 0 to 96", () -> {
            TapLoom loom = new TapLoom();
            for (int tap = 0; tap < Looms.TAPS; tap++) {
                loom.tap(tap, tap * 3);
            }
            for (int tap = 0; tap < Looms.TAPS; tap++) {
                KIT.is("tapOf(" + tap + ")", loom.tapOf(tap), tap * 3);
            }
        });
        KIT.test("Promise 17, 'Returns a tap': the one set last, also if it was designed before", () -> {
            TapLoom loom = new TapLoom();
            loom.ask(0, 32);
            loom.design();
            KIT.is("designed", loom.tapOf(5), 1);
            loom.tap(5, -1);
            KIT.is("set", loom.tapOf(5), 96);
            loom.design();
            KIT.is("designed again", loom.tapOf(5), 1);
        });
        KIT.refusedBeyond("Promise 17, 'IndexOutOfBoundsException if there is no such tap', 'tap: 0 to 31'",
                Kit.INDEX, Looms::busy, 0, 31, TapLoom::tapOf);
        KIT.asks("Promise 17, with Terms 'Questions change nothing': tapOf(7)", Looms::busy,
                loom -> loom.tapOf(7));
        KIT.end();
    }
}
