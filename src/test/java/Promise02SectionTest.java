/** Promise 2, section, sentence by sentence. */
final class Promise02SectionTest {
    private static final Kit KIT = new Kit();

    public static void main(String[] args) {
        makes();
        numbers();
        ways();
        full();
        KIT.end();
    }

    private static void makes() {
        for (int way = 0; way <= 2; way++) {
            int made = way;
            KIT.test("Promise 2, 'Makes a section, whose output is its input': made with way " + way, () -> {
                TapLoom loom = Looms.chained(made);
                KIT.are("run", Looms.runs(loom, -32767, -32766, -65, -1, 0, 1, 2, 63, 32766, 32767),
                        -32767, -32766, -65, -1, 0, 1, 2, 63, 32766, 32767);
            });
        }
        KIT.test("Promise 2, 'b0 is 64, all else 0': its coefficients", () ->
                KIT.are("of", Looms.coefficients(Looms.with(1), 0), 64, 0, 0, 0, 0));
        KIT.test("Promise 2, 'b0 is 64, all else 0': its y1 and y2", () -> {
            TapLoom loom = Looms.with(2);
            KIT.is("y1", loom.of(0, Looms.Y1), 0);
            KIT.is("y2", loom.of(0, Looms.Y2), 0);
        });
        KIT.test("Promise 2, 'b0 is 64, all else 0': its x1 and x2", () -> {
            TapLoom loom = Looms.chained(0, 0, 127, 127);
            KIT.are("run", Looms.runs(loom, 0, 0), 0, 0);
        });
        KIT.test("Promise 2, 'Makes a section': it is in no chain", () -> {
            TapLoom loom = Looms.chainOfPlain(3, 3);
            int made = loom.section(0);
            KIT.is("its place", loom.of(made, Looms.PLACE), TapLoom.NONE);
            KIT.are("the chain", Looms.order(loom, 4), 0, 1, 2);
        });
        KIT.test("Promise 2, 'Makes a section': the others stay as they are", () -> {
            TapLoom loom = Looms.busy();
            loom.section(0);
            KIT.are("section 0", Looms.coefficients(loom, 0), 40, 30, -20, 25, 10);
            KIT.are("section 1", Looms.coefficients(loom, 1), 64, -17, 9, -30, -12);
            KIT.are("section 2", Looms.coefficients(loom, 2), 33, 21, 50, 11, 40);
            KIT.are("the chain", Looms.order(loom, 4), 2, 0);
        });
    }

    private static void numbers() {
        KIT.test("Promise 2, 'Returns its number', with Terms 'numbered from 0, at most 8': 0 to 7", () -> {
            TapLoom loom = new TapLoom();
            for (int i = 0; i < 8; i++) {
                KIT.is("section(" + i % 3 + ")", loom.section(i % 3), i);
            }
        });
        KIT.test("Promise 2, 'Returns its number': a refused call uses up none", () -> {
            TapLoom loom = Looms.sections(1);
            KIT.throwsDue(Kit.ARGUMENT, loom, x -> x.section(3));
            KIT.is("section(0)", loom.section(0), 1);
        });
    }

    private static void ways() {
        for (int way = 0; way <= 2; way++) {
            int made = way;
            KIT.test("Promise 2, 'way: 0 to 2: how it rounds': " + way + " is taken", () -> {
                TapLoom loom = new TapLoom();
                KIT.is("section", loom.section(made), 0);
                KIT.is("its way", loom.of(0, Looms.WAY), made);
            });
        }
        KIT.test("Promise 2, 'way: how it rounds': -1 by 2 is 0 towards 0, -1 down, 0 to the nearest", () -> {
            KIT.is("towards 0", Looms.chained(0, 32).run(-1), 0);
            KIT.is("down", Looms.chained(1, 32).run(-1), -1);
            KIT.is("to the nearest", Looms.chained(2, 32).run(-1), 0);
            KIT.is("1 by 2 to the nearest", Looms.chained(2, 32).run(1), 1);
            KIT.is("1 by 2 towards 0", Looms.chained(0, 32).run(1), 0);
        });
        KIT.test("Promise 2, 'way: how it rounds': each section keeps a way of its own", () -> {
            TapLoom loom = new TapLoom();
            for (int i = 0; i < 8; i++) {
                loom.section((i + 1) % 3);
            }
            for (int i = 0; i < 8; i++) {
                KIT.is("the way of " + i, loom.of(i, Looms.WAY), (i + 1) % 3);
            }
        });
        KIT.refusedBeyond("Promise 2, 'IllegalArgumentException if way is out of range', 'way: 0 to 2'",
                Kit.ARGUMENT, Looms::busy, 0, 2, TapLoom::section);
        KIT.refused("Promise 2, 'IllegalArgumentException if way is out of range': 3 in a new object",
                Kit.ARGUMENT, TapLoom::new, loom -> loom.section(3));
    }

    private static void full() {
        KIT.test("Promise 2, 'IllegalStateException if there are 8': with 7 the eighth is made", () -> {
            TapLoom loom = Looms.sections(7);
            KIT.is("section(2)", loom.section(2), 7);
            KIT.is("its way", loom.of(7, Looms.WAY), 2);
            loom.chain(7);
            KIT.is("its output", loom.run(-9), -9);
        });
        KIT.refused("Promise 2, 'IllegalStateException if there are 8': the ninth is refused, nothing changes",
                Kit.STATE, Looms::busyFull, loom -> loom.section(0));
        KIT.refused("Promise 2, 'IllegalStateException if there are 8': the ninth of way 2 is refused too",
                Kit.STATE, () -> Looms.sections(8), loom -> loom.section(2));
        KIT.test("Promise 2, 'IllegalStateException if there are 8': also if none of them is in the chain", () -> {
            TapLoom loom = Looms.chainOfPlain(8, 8);
            for (int i = 0; i < 8; i++) {
                loom.chain(i);
            }
            loom.rest();
            KIT.throwsDue(Kit.STATE, loom, x -> x.section(1));
        });
        KIT.refused("Promise 2, with Terms 'the one that is named first': way 3 with 8 sections",
                Kit.ARGUMENT, Looms::busyFull, loom -> loom.section(3));
        KIT.refused("Promise 2, with Terms 'the one that is named first': way -1 with 8 sections",
                Kit.ARGUMENT, Looms::busyFull, loom -> loom.section(-1));
    }
}
