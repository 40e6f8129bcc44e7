/** Promise 1, a new object: 'Opens a workshop without sections, all taps and samples 0.' */
final class Promise01NewObjectTest {
    private static final Kit KIT = new Kit();

    public static void main(String[] args) {
        sections();
        taps();
        samples();
        objects();
        KIT.end();
    }

    private static void sections() {
        KIT.refused("Promise 1, 'without sections': of section 0 nothing is told", Kit.INDEX,
                TapLoom::new, loom -> loom.of(0, 0));
        KIT.refused("Promise 1, 'without sections': nothing is set in section 0", Kit.INDEX,
                TapLoom::new, loom -> loom.set(0, 0, 0));
        KIT.refused("Promise 1, 'without sections': section 0 is not put into the chain", Kit.INDEX,
                TapLoom::new, loom -> loom.chain(0));
        KIT.refused("Promise 1, 'without sections': section 0 has no cycles to tell of", Kit.INDEX,
                TapLoom::new, loom -> loom.cycles(0, 1, 0));
        KIT.test("Promise 1, 'without sections': the first one made is number 0", () ->
                KIT.is("section(0)", new TapLoom().section(0), 0));
        KIT.test("Promise 1, 'without sections': the chain is empty, its gain is 1 by 1", () -> {
            TapLoom loom = new TapLoom();
            for (int where = TapLoom.LOW; where <= TapLoom.QUARTER; where++) {
                KIT.are("gain at " + where, Looms.gain(loom, where), 1, 1);
            }
            KIT.is("arrange()", loom.arrange(), 0);
        });
        KIT.test("Promise 1, 'without sections': no outputs are kept", () -> {
            TapLoom loom = new TapLoom();
            for (int back = 0; back <= 16; back++) {
                KIT.is("output(" + back + ")", loom.output(back), 0);
            }
            KIT.is("rest()", loom.rest(), 0);
        });
    }

    private static void taps() {
        KIT.test("Promise 1, 'all taps 0': each of the 32 is told so", () -> {
            TapLoom loom = new TapLoom();
            for (int tap = 0; tap < Looms.TAPS; tap++) {
                KIT.is("tapOf(" + tap + ")", loom.tapOf(tap), 0);
            }
        });
        KIT.test("Promise 1, 'all taps 0': each is 0 before it is set", () -> {
            TapLoom loom = new TapLoom();
            for (int tap = 0; tap < Looms.TAPS; tap++) {
                KIT.is("tap(" + tap + ", 1)", loom.tap(tap, 1), 0);
            }
        });
        KIT.test("Promise 1, 'all taps 0': the answers to all tones are 0, by both ways", () -> {
            TapLoom loom = new TapLoom();
            for (int tone = 0; tone < Looms.TAPS; tone++) {
                KIT.is("answer(" + tone + ")", loom.answer(tone), 0);
                KIT.is("answerAnew(" + tone + ")", loom.answerAnew(tone), 0);
            }
        });
        KIT.test("Promise 1, with Terms 'that which was asked, 0 at first': nothing is asked of any tone", () -> {
            TapLoom loom = new TapLoom();
            KIT.is("design()", loom.design(), 0);
            for (int tone = 0; tone < Looms.TAPS; tone++) {
                KIT.is("ask(" + tone + ", 1)", loom.ask(tone, 1), 0);
            }
        });
    }

    private static void samples() {
        KIT.test("Promise 1, 'all samples 0': there is none to be sifted", () -> {
            TapLoom loom = new TapLoom();
            for (int back = 0; back <= 64; back++) {
                KIT.is("sifted(" + back + ")", loom.sifted(back), TapLoom.NONE);
            }
        });
        KIT.test("Promise 1, 'all samples 0': the first sample is one of one, with 0 ahead of it", () -> {
            TapLoom loom = new TapLoom();
            for (int tap = 1; tap < Looms.TAPS; tap++) {
                loom.tap(tap, 96);
            }
            KIT.is("sample(5)", loom.sample(5), 1);
            KIT.is("sifted(0)", loom.sifted(0), 0);
        });
    }

    private static void objects() {
        KIT.test("Promise 1, 'a workshop': what is done in another one does not change it", () -> {
            TapLoom loom = new TapLoom();
            TapLoom other = Looms.busyChain(8);
            other.cycles(0, 12, 0);
            other.design();
            KIT.same("a new one", loom, new TapLoom());
        });
        KIT.test("Promise 1, 'Opens a workshop': one opened after another was used is new", () -> {
            TapLoom other = Looms.busyChain(8);
            other.cycles(1, 12, 0);
            TapLoom loom = new TapLoom();
            KIT.is("its first section", loom.section(0), 0);
            KIT.are("its coefficients", Looms.coefficients(loom, 0), 64, 0, 0, 0, 0);
            KIT.is("its outputs", loom.rest(), 0);
            KIT.is("its tap 7", loom.tapOf(7), 0);
            KIT.is("what is asked of tone 7", loom.ask(7, 0), 0);
            KIT.is("its samples", loom.sample(0), 1);
            KIT.are("its cycles", Looms.cycles(loom, 0, 12), 0, 0, 0, 0);
        });
    }
}
