/** Promise 13, output, sentence by sentence. */
final class Promise13OutputTest {
    private static final Kit KIT = new Kit();

    public static void main(String[] args) {
        tells();
        kept();
        refused();
        KIT.end();
    }

    private static TapLoom ran(int count) {
        TapLoom loom = new TapLoom();
        for (int i = 1; i <= count; i++) {
            loom.run(i * 10);
        }
        return loom;
    }

    private static void tells() {
        KIT.test("Promise 13, 'back: 0 for the latest one': 0 the latest, 1 the one ahead of it", () -> {
            TapLoom loom = ran(3);
            KIT.is("output(0)", loom.output(0), 30);
            KIT.is("output(1)", loom.output(1), 20);
            KIT.is("output(2)", loom.output(2), 10);
        });
        KIT.test("Promise 13, 'Returns an output of the chain': what comes out, not what goes in", () -> {
            TapLoom loom = Looms.chainOf(Looms.row(32), Looms.row(-64));
            Looms.runs(loom, 100, -60);
            KIT.is("output(0)", loom.output(0), 30);
            KIT.is("output(1)", loom.output(1), -50);
        });
        KIT.test("Promise 13, 'an output of the chain': that of then, though the chain is another now", () -> {
            TapLoom loom = Looms.chained(0, 32);
            loom.run(100);
            loom.chain(0);
            loom.run(7);
            KIT.is("output(0)", loom.output(0), 7);
            KIT.is("output(1)", loom.output(1), 50);
        });
        KIT.test("Promise 13, 'Returns the output': its ends, -32767 and 32767", () -> {
            TapLoom loom = new TapLoom();
            Looms.runs(loom, -32767, 32767);
            KIT.is("output(0)", loom.output(0), 32767);
            KIT.is("output(1)", loom.output(1), -32767);
        });
    }

    private static void kept() {
        KIT.test("Promise 13, '0 if there are not so many': none", () ->
                KIT.is("output(0)", new TapLoom().output(0), 0));
        KIT.test("Promise 13, '0 if there are not so many': just beyond the first one", () -> {
            TapLoom loom = ran(3);
            KIT.is("output(3)", loom.output(3), 0);
            KIT.is("output(15)", loom.output(15), 0);
            KIT.is("output(16)", loom.output(16), 0);
        });
        KIT.test("Promise 13, Terms 'the latest 16 outputs are kept': with 16 all are there", () -> {
            TapLoom loom = ran(16);
            for (int back = 0; back < 16; back++) {
                KIT.is("output(" + back + ")", loom.output(back), (16 - back) * 10);
            }
            KIT.is("output(16)", loom.output(16), 0);
        });
        KIT.test("Promise 13, Terms 'the latest 16 outputs are kept': with 17 the first one is not", () -> {
            TapLoom loom = ran(17);
            KIT.is("output(0)", loom.output(0), 170);
            KIT.is("output(15)", loom.output(15), 20);
            KIT.is("output(16)", loom.output(16), 0);
        });
        KIT.test("Promise 13, Terms 'the latest 16 outputs are kept': twice round and more", () -> {
            TapLoom loom = ran(50);
            for (int back = 0; back < 16; back++) {
                KIT.is("output(" + back + ")", loom.output(back), (50 - back) * 10);
            }
            KIT.is("output(16)", loom.output(16), 0);
            KIT.is("output(49)", loom.output(49), 0);
        });
        KIT.test("Promise 13, '0 if there are not so many': the greatest int", () -> {
            KIT.is("of 17", ran(17).output(Integer.MAX_VALUE), 0);
            KIT.is("of none", new TapLoom().output(Integer.MAX_VALUE), 0);
        });
    }

    private static void refused() {
        KIT.refused("Promise 13, 'IndexOutOfBoundsException if back is below 0': -1", Kit.INDEX,
                Looms::busy, loom -> loom.output(-1));
        KIT.refused("Promise 13, 'IndexOutOfBoundsException if back is below 0': the least int", Kit.INDEX,
                Looms::busy, loom -> loom.output(Integer.MIN_VALUE));
        KIT.refused("Promise 13, 'IndexOutOfBoundsException if back is below 0': -1 in a new object", Kit.INDEX,
                TapLoom::new, loom -> loom.output(-1));
        KIT.asks("Promise 13, with Terms 'Questions change nothing': output(0)", Looms::busy,
                loom -> loom.output(0));
        KIT.asks("Promise 13, with Terms 'Questions change nothing': output(16)", Looms::busy,
                loom -> loom.output(16));
    }
}
