/** Promise 4, chain, sentence by sentence. */
final class Promise04ChainTest {
    private static final Kit KIT = new Kit();

    public static void main(String[] args) {
        puts();
        takes();
        keeps();
        refused();
        KIT.end();
    }

    private static void puts() {
        KIT.test("Promise 4, 'Puts a section behind the chain': the first one into the empty chain", () -> {
            TapLoom loom = Looms.sections(3);
            KIT.is("chain(1)", loom.chain(1), 1);
            KIT.are("the chain", Looms.order(loom, 3), 1);
        });
        KIT.test("Promise 4, 'Puts a section behind the chain': not by its number", () -> {
            TapLoom loom = Looms.sections(4);
            loom.chain(2);
            loom.chain(0);
            loom.chain(3);
            loom.chain(1);
            KIT.are("the chain", Looms.order(loom, 4), 2, 0, 3, 1);
        });
        KIT.test("Promise 4, 'Returns how many the chain has then': 1 to 8, all that there can be", () -> {
            TapLoom loom = Looms.sections(8);
            for (int i = 0; i < 8; i++) {
                KIT.is("chain(" + (7 - i) + ")", loom.chain(7 - i), i + 1);
            }
            KIT.are("the chain", Looms.order(loom, 8), 7, 6, 5, 4, 3, 2, 1, 0);
        });
        KIT.test("Promise 4, 'Puts a section behind the chain': the first of 8 and the last of 8", () -> {
            TapLoom loom = Looms.sections(8);
            KIT.is("chain(7)", loom.chain(7), 1);
            KIT.is("chain(0)", loom.chain(0), 2);
        });
    }

    private static void takes() {
        KIT.test("Promise 4, 'or takes it out', with Terms 'each once': the second call takes it out", () -> {
            TapLoom loom = Looms.sections(1);
            KIT.is("chain(0)", loom.chain(0), 1);
            KIT.is("chain(0) again", loom.chain(0), 0);
            KIT.is("its place", loom.of(0, Looms.PLACE), TapLoom.NONE);
            KIT.is("chain(0) a third time", loom.chain(0), 1);
        });
        KIT.test("Promise 4, 'or takes it out': the first one, the others move up", () -> {
            TapLoom loom = Looms.chainOfPlain(4, 4);
            KIT.is("chain(0)", loom.chain(0), 3);
            KIT.are("the chain", Looms.order(loom, 4), 1, 2, 3);
        });
        KIT.test("Promise 4, 'or takes it out': one in the middle", () -> {
            TapLoom loom = Looms.chainOfPlain(4, 4);
            KIT.is("chain(2)", loom.chain(2), 3);
            KIT.are("the chain", Looms.order(loom, 4), 0, 1, 3);
        });
        KIT.test("Promise 4, 'or takes it out': the last one", () -> {
            TapLoom loom = Looms.chainOfPlain(4, 4);
            KIT.is("chain(3)", loom.chain(3), 3);
            KIT.are("the chain", Looms.order(loom, 4), 0, 1, 2);
        });
        KIT.test("Promise 4, 'Returns how many the chain has then': 7 to 0, until it is empty", () -> {
            TapLoom loom = Looms.chainOfPlain(8, 8);
            for (int i = 0; i < 8; i++) {
                KIT.is("chain(" + i + ")", loom.chain(i), 7 - i);
            }
            KIT.are("the chain", Looms.order(loom, 8));
            KIT.is("its output is its input", loom.run(123), 123);
        });
        KIT.test("Promise 4, 'Puts a section behind the chain': one taken out goes to the end", () -> {
            TapLoom loom = Looms.chainOfPlain(3, 3);
            loom.chain(0);
            KIT.is("chain(0)", loom.chain(0), 3);
            KIT.are("the chain", Looms.order(loom, 3), 1, 2, 0);
        });
    }

    private static void keeps() {
        KIT.test("Promise 4, with Terms 'keeps its x1, x2, y1 and y2': taken out and put in again", () -> {
            TapLoom loom = Looms.chained(0, 0, 64, 64, 0, 0);
            Looms.runs(loom, 100, 20);
            loom.chain(0);
            KIT.is("y1", loom.of(0, Looms.Y1), 100);
            loom.chain(0);
            KIT.is("y1 again", loom.of(0, Looms.Y1), 100);
            KIT.are("x1 and x2 go on", Looms.runs(loom, 0, 0, 0), 120, 20, 0);
        });
        KIT.test("Promise 4, with Terms 'keeps its x1, x2, y1 and y2': nothing goes through one outside", () -> {
            TapLoom loom = Looms.chained(0, 64, 64, 64, -32, 0);
            Looms.runs(loom, 64, 0);
            loom.chain(0);
            KIT.are("the chain without it", Looms.runs(loom, 5, 6, 7), 5, 6, 7);
            loom.chain(0);
            KIT.is("y1", loom.of(0, Looms.Y1), 96);
            KIT.is("y2", loom.of(0, Looms.Y2), 64);
            // x1 is 0, x2 is 64, and half of 96
            KIT.is("the next one", loom.run(0), 112);
        });
        KIT.test("Promise 4, 'Puts a section behind the chain, or takes it out': outputs and numbers stay", () -> {
            TapLoom loom = Looms.chained(1, 32, 1, 2, 3, 4);
            loom.run(10);
            loom.chain(0);
            KIT.is("the output", loom.output(0), 5);
            KIT.are("its numbers", Looms.coefficients(loom, 0), 32, 1, 2, 3, 4);
            KIT.is("its way", loom.of(0, Looms.WAY), 1);
            KIT.is("one output is kept", loom.rest(), 1);
        });
    }

    private static void refused() {
        KIT.refusedBeyond("Promise 4, 'IndexOutOfBoundsException if there is no such section', of 3",
                Kit.INDEX, Looms::busy, 0, 2, TapLoom::chain);
        KIT.refusedBeyond("Promise 4, 'IndexOutOfBoundsException if there is no such section', of 8",
                Kit.INDEX, () -> Looms.busyChain(8), 0, 7, TapLoom::chain);
        KIT.refused("Promise 4, 'IndexOutOfBoundsException if there is no such section': 0 in a new object",
                Kit.INDEX, TapLoom::new, loom -> loom.chain(0));
    }
}
