/** What the document says of all calls together: the constants, 512 calls, exceptions, more than one object. */
final class TermsUseTest {
    private static final int CALLS = 512;

    private static final Kit KIT = new Kit();

    public static void main(String[] args) {
        constants();
        manyChanges();
        manyQuestions();
        manyRefusals();
        manyObjects();
        changedNothing();
        KIT.end();
    }

    private static void constants() {
        KIT.test("The constants: 'NONE = -1': There is none", () -> {
            KIT.is("NONE", TapLoom.NONE, -1);
            KIT.is("told of a section", Looms.with(0).of(0, Looms.PLACE), -1);
            KIT.is("told of samples", new TapLoom().sifted(0), -1);
        });
        KIT.test("The constants: 'LOW = 0, HIGH = 1, QUARTER = 2': Where gains are", () -> {
            KIT.is("LOW", TapLoom.LOW, 0);
            KIT.is("HIGH", TapLoom.HIGH, 1);
            KIT.is("QUARTER", TapLoom.QUARTER, 2);
            TapLoom loom = Looms.chainOf(Looms.row(64, 32));
            KIT.are("gain at low", Looms.gain(loom, 0), 3, 2);
            KIT.are("gain at high", Looms.gain(loom, 1), 1, 2);
            KIT.are("gain at the quarter", Looms.gain(loom, 2), 5, 4);
        });
    }

    private static void manyChanges() {
        KIT.test("What it is: 'at most 512 calls': the 512th run answers as the first", () -> {
            TapLoom loom = Looms.chained(0, 32);
            for (int i = 4; i <= CALLS; i++) {
                KIT.is("run, call " + i, loom.run(2 * i), i);
            }
        });
        KIT.test("What it is: 'at most 512 calls': the 512th sample, 64 are kept", () -> {
            TapLoom loom = new TapLoom();
            for (int i = 1; i <= CALLS; i++) {
                KIT.is("sample, call " + i, loom.sample(i % 97), Math.min(i, 64));
            }
        });
        KIT.test("What it is: 'at most 512 calls': the 512th chain, in and out", () -> {
            TapLoom loom = Looms.sections(2);
            for (int i = 3; i <= CALLS; i++) {
                KIT.is("chain, call " + i, loom.chain(1), i % 2);
            }
        });
        KIT.test("What it is: 'at most 512 calls': the 512th arrange, after a section is put behind", () -> {
            TapLoom loom = Looms.chainOfPlain(4, 4);
            for (int i = 9; i + 2 < CALLS; i += 3) {
                loom.chain(0);
                loom.chain(0);
                KIT.is("arrange, call " + (i + 2), loom.arrange(), 4);
            }
        });
        KIT.test("What it is: 'at most 512 calls': the 512th design", () -> {
            TapLoom loom = new TapLoom();
            for (int i = 1; i < CALLS; i += 2) {
                loom.ask(0, i % 4 == 1 ? 32 : 0);
                KIT.is("design, call " + (i + 1), loom.design(), 32);
            }
        });
        KIT.test("What it is: 'at most 512 calls': the 512th set, tap, ask and rest", () -> {
            TapLoom loom = Looms.sections(1);
            for (int i = 2; i + 3 < CALLS; i += 4) {
                KIT.is("set, call " + i, loom.set(0, 0, i % 100), i == 2 ? 64 : (i - 4) % 100);
                KIT.is("tap, call " + (i + 1), loom.tap(31, i % 97), i == 2 ? 0 : (i - 4) % 97);
                KIT.is("ask, call " + (i + 2), loom.ask(31, i % 97), i == 2 ? 0 : (i - 4) % 97);
                KIT.is("rest, call " + (i + 3), loom.rest(), 0);
            }
        });
    }

    private static void manyQuestions() {
        KIT.test("What it is: 'at most 512 calls': the 512th cycles, of 1052 states", () -> {
            TapLoom loom = Looms.with(2, 64, 0, 0, 127, 64);
            for (int i = 7; i <= CALLS; i++) {
                KIT.is("cycles, call " + i, loom.cycles(0, 12, 1), 1052);
            }
        });
        KIT.test("What it is: 'at most 512 calls': the 512th gain and meets", () -> {
            TapLoom loom = Looms.chainOf(Looms.row(96), Looms.row(96));
            for (int i = 5; i + 2 < CALLS; i += 3) {
                KIT.are("gain, call " + i, Looms.gain(loom, 0), 9, 4);
                KIT.is("meets, call " + (i + 2), loom.meets(2, 2250, 2250), true);
            }
        });
        KIT.test("What it is: 'at most 512 calls': the 512th answer, by both ways, and sifted", () -> {
            TapLoom loom = new TapLoom();
            loom.tap(1, 1);
            loom.sample(5);
            for (int i = 3; i + 2 < CALLS; i += 3) {
                KIT.is("answer, call " + i, loom.answer(1), 28);
                KIT.is("answerAnew, call " + (i + 1), loom.answerAnew(1), 28);
                KIT.is("sifted, call " + (i + 2), loom.sifted(0), 0);
            }
        });
    }

    private static void manyRefusals() {
        KIT.test("Terms, exceptions: 'changes nothing', though 504 sections are refused", () -> {
            TapLoom loom = Looms.sections(8);
            for (int i = 9; i < CALLS; i++) {
                KIT.throwsDue(Kit.STATE, loom, x -> x.section(0));
            }
            KIT.are("the last one", new long[] {loom.of(7, 0)}, 64);
        });
        KIT.test("Terms, exceptions: 'changes nothing', though 100 calls of all kinds are refused", () -> {
            TapLoom loom = Looms.busy();
            for (int i = 0; i < 7; i++) {
                refuseAll(loom);
            }
            KIT.same("after the refusals", loom, Looms.busy());
        });
    }

    /** Each refusal that the object has for a busy one with three sections, once. */
    private static void refuseAll(TapLoom loom) {
        KIT.throwsDue(Kit.ARGUMENT, loom, x -> x.section(3));
        KIT.throwsDue(Kit.INDEX, loom, x -> x.set(3, 0, 0));
        KIT.throwsDue(Kit.ARGUMENT, loom, x -> x.set(0, 0, 128));
        KIT.throwsDue(Kit.INDEX, loom, x -> x.chain(3));
        KIT.throwsDue(Kit.ARGUMENT, loom, x -> x.run(32768));
        KIT.throwsDue(Kit.INDEX, loom, x -> x.tap(32, 0));
        KIT.throwsDue(Kit.ARGUMENT, loom, x -> x.tap(0, 97));
        KIT.throwsDue(Kit.INDEX, loom, x -> x.ask(32, 0));
        KIT.throwsDue(Kit.ARGUMENT, loom, x -> x.ask(0, 97));
        KIT.throwsDue(Kit.ARGUMENT, loom, x -> x.sample(97));
        KIT.throwsDue(Kit.INDEX, loom, x -> x.of(3, 0));
        KIT.throwsDue(Kit.ARGUMENT, loom, x -> x.of(0, 10));
        KIT.throwsDue(Kit.INDEX, loom, x -> x.output(-1));
        KIT.throwsDue(Kit.ARGUMENT, loom, x -> x.gain(3, true));
        KIT.throwsDue(Kit.ARGUMENT, loom, x -> x.meets(0, 1, 0) ? 1 : 0);
        KIT.throwsDue(Kit.ARGUMENT, loom, x -> x.cycles(0, 13, 0));
    }

    private static void manyObjects() {
        KIT.test("What it is: 'An object is used': two at once, each as if it were alone", () -> {
            TapLoom one = Looms.chained(0, 64, 64);
            TapLoom other = Looms.chained(1, 32);
            KIT.is("one", one.run(10), 10);
            KIT.is("other", other.run(10), 5);
            KIT.is("one", one.run(0), 10);
            KIT.is("other", other.run(-1), -1);
            one.tap(0, 5);
            other.tap(0, 6);
            KIT.is("one's tap", one.tapOf(0), 5);
            KIT.is("other's tap", other.tapOf(0), 6);
            KIT.is("one's cycles", one.cycles(0, 3, 0), 0);
            other.set(0, Looms.A1, -64);
            KIT.is("other's cycles", other.cycles(0, 3, 0), 6);
            KIT.is("one's cycles again", one.cycles(0, 3, 0), 0);
        });
        KIT.test("What it is: the same calls of a new object have the same answers", () ->
                KIT.same("a second one", Looms.busyChain(8), Looms.busyChain(8)));
    }

    private static void changedNothing() {
        KIT.test("Terms: 'Questions change nothing': all of them together", () -> {
            TapLoom loom = Looms.busy();
            loom.of(0, 5);
            loom.output(3);
            loom.gain(0, true);
            loom.meets(1, 0, 10000);
            loom.cycles(2, 12, 3);
            loom.tapOf(31);
            loom.answer(31);
            loom.answerAnew(31);
            loom.sifted(63);
            KIT.same("after the questions", loom, Looms.busy());
        });
    }
}
