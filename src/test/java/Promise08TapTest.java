/** Promise 8, tap, sentence by sentence. */
final class Promise08TapTest {
    private static final Kit KIT = new Kit();

    public static void main(String[] args) {
        sets();
        values();
        refused();
        KIT.end();
    }

    private static void sets() {
        KIT.test("Promise 8, 'tap: 0 to 31': each is set, and no other", () -> {
            TapLoom loom = new TapLoom();
            for (int tap = 0; tap < Looms.TAPS; tap++) {
                loom.tap(tap, tap + 40);
            }
            for (int tap = 0; tap < Looms.TAPS; tap++) {
                KIT.is("tapOf(" + tap + ")", loom.tapOf(tap), tap + 40);
            }
        });
        for (int end : new int[] {0, 31}) {
            KIT.test("Promise 8, 'tap: 0 to 31': " + end + ", an end, is taken, the others stay 0", () -> {
                TapLoom loom = new TapLoom();
                KIT.is("tap", loom.tap(end, 9), 0);
                for (int tap = 0; tap < Looms.TAPS; tap++) {
                    KIT.is("tapOf(" + tap + ")", loom.tapOf(tap), tap == end ? 9 : 0);
                }
            });
        }
        KIT.test("Promise 8, 'Returns the number before, 0 to 96': 0 first, then what was set", () -> {
            TapLoom loom = new TapLoom();
            KIT.is("first", loom.tap(3, 96), 0);
            KIT.is("second", loom.tap(3, 0), 96);
            KIT.is("third", loom.tap(3, 5), 0);
            KIT.is("fourth", loom.tap(3, 5), 5);
        });
        KIT.test("Promise 8, 'Returns the number before': one that was designed", () -> {
            TapLoom loom = new TapLoom();
            loom.ask(0, 32);
            loom.design();
            // 32 by 32 is 1
            KIT.is("tap(4, 0)", loom.tap(4, 0), 1);
        });
        KIT.test("Promise 8, 'Sets a tap': what is asked and the samples stay", () -> {
            TapLoom loom = Looms.busy();
            loom.tap(1, 50);
            KIT.is("what is asked of tone 1", loom.ask(1, 5), 5);
            KIT.is("what is asked of tone 25", loom.ask(25, 49), 49);
            KIT.is("samples", loom.sample(0), 6);
        });
    }

    private static void values() {
        int[][] due = {{-96, 1}, {-95, 2}, {-1, 96}, {0, 0}, {1, 1}, {95, 95}, {96, 96}};
        for (int[] pair : due) {
            KIT.test("Promise 8, 'value: -96 to 96', Terms 'the remainders by 97, 0 to 96': "
                    + pair[0] + " is " + pair[1], () -> {
                TapLoom loom = new TapLoom();
                loom.tap(6, 50);
                KIT.is("tap(6, " + pair[0] + ")", loom.tap(6, pair[0]), 50);
                KIT.is("tapOf(6)", loom.tapOf(6), pair[1]);
                KIT.is("the number before", loom.tap(6, 0), pair[1]);
            });
        }
    }

    private static void refused() {
        KIT.refusedBeyond("Promise 8, 'IndexOutOfBoundsException if there is no such tap', 'tap: 0 to 31'",
                Kit.INDEX, Looms::busy, 0, 31, (loom, tap) -> loom.tap(tap, 3));
        KIT.refusedBeyond("Promise 8, 'IllegalArgumentException if value is out of range', 'value: -96 to 96'",
                Kit.ARGUMENT, Looms::busy, -96, 96, (loom, value) -> loom.tap(7, value));
        KIT.refused("Promise 8, with Terms 'the one that is named first': tap 32 and value 97",
                Kit.INDEX, Looms::busy, loom -> loom.tap(32, 97));
        KIT.refused("Promise 8, with Terms 'the one that is named first': tap -1 and value -97",
                Kit.INDEX, Looms::busy, loom -> loom.tap(-1, -97));
    }
}
