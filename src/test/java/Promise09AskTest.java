/** Promise 9, ask, sentence by sentence. */
final class Promise09AskTest {
    private static final Kit KIT = new Kit();

    public static void main(String[] args) {
        asks();
        values();
        refused();
        KIT.end();
    }

    private static void asks() {
        KIT.test("Promise 9, 'tone: 0 to 31': each is asked of for itself", () -> {
            TapLoom loom = new TapLoom();
            for (int tone = 0; tone < Looms.TAPS; tone++) {
                KIT.is("ask(" + tone + ") first", loom.ask(tone, tone + 60), 0);
            }
            for (int tone = 0; tone < Looms.TAPS; tone++) {
                KIT.is("ask(" + tone + ") then", loom.ask(tone, 0), tone + 60);
            }
        });
        for (int end : new int[] {0, 31}) {
            KIT.test("Promise 9, 'tone: 0 to 31': " + end + ", an end, is taken, and answered after a design", () -> {
                TapLoom loom = new TapLoom();
                loom.ask(end, 9);
                loom.design();
                for (int tone = 0; tone < Looms.TAPS; tone++) {
                    KIT.is("answer(" + tone + ")", loom.answer(tone), tone == end ? 9 : 0);
                }
            });
        }
        KIT.test("Promise 9, 'Returns what was asked before, 0 to 96': 0 first, then what was asked", () -> {
            TapLoom loom = new TapLoom();
            KIT.is("first", loom.ask(3, 96), 0);
            KIT.is("second", loom.ask(3, 0), 96);
            KIT.is("third", loom.ask(3, 5), 0);
            KIT.is("fourth", loom.ask(3, 5), 5);
        });
        KIT.test("Promise 9, 'Asks for an answer': the taps stay until they are designed", () -> {
            TapLoom loom = new TapLoom();
            loom.tap(2, 7);
            loom.ask(3, 50);
            KIT.is("tapOf(2)", loom.tapOf(2), 7);
            KIT.is("tapOf(3)", loom.tapOf(3), 0);
            KIT.is("answer(0)", loom.answer(0), 7);
        });
        KIT.test("Promise 9, 'Returns what was asked before': still there after a design and after a tap", () -> {
            TapLoom loom = new TapLoom();
            loom.ask(3, 50);
            loom.design();
            loom.tap(3, 1);
            KIT.is("ask(3, 0)", loom.ask(3, 0), 50);
        });
    }

    private static void values() {
        int[][] due = {{-96, 1}, {-95, 2}, {-1, 96}, {0, 0}, {1, 1}, {95, 95}, {96, 96}};
        for (int[] pair : due) {
            KIT.test("Promise 9, 'value: -96 to 96', Terms 'the remainders by 97, 0 to 96': "
                    + pair[0] + " is " + pair[1], () -> {
                TapLoom loom = new TapLoom();
                loom.ask(6, 50);
                KIT.is("ask(6, " + pair[0] + ")", loom.ask(6, pair[0]), 50);
                loom.design();
                KIT.is("answer(6)", loom.answer(6), pair[1]);
                KIT.is("what was asked", loom.ask(6, 0), pair[1]);
            });
        }
    }

    private static void refused() {
        KIT.refusedBeyond("Promise 9, 'IndexOutOfBoundsException if there is no such tone', 'tone: 0 to 31'",
                Kit.INDEX, Looms::busy, 0, 31, (loom, tone) -> loom.ask(tone, 3));
        KIT.refusedBeyond("Promise 9, 'IllegalArgumentException if value is out of range', 'value: -96 to 96'",
                Kit.ARGUMENT, Looms::busy, -96, 96, (loom, value) -> loom.ask(7, value));
        KIT.refused("Promise 9, with Terms 'the one that is named first': tone 32 and value 97",
                Kit.INDEX, Looms::busy, loom -> loom.ask(32, 97));
        KIT.refused("Promise 9, with Terms 'the one that is named first': tone -1 and value -97",
                Kit.INDEX, Looms::busy, loom -> loom.ask(-1, -97));
    }
}
