/** Promise 12, of, sentence by sentence. */
final class Promise12OfTest {
    private static final Kit KIT = new Kit();

    public static void main(String[] args) {
        coefficients();
        stable();
        place();
        outputs();
        way();
        refused();
        changesNothing();
        KIT.end();
    }

    private static void coefficients() {
        for (int what = Looms.B0; what <= Looms.A2; what++) {
            int told = what;
            KIT.test("Promise 12, 'what: 0 to 4 b0 to a2': " + what + " tells that one, at both ends too", () -> {
                TapLoom loom = Looms.with(0, 1, 2, 3, 4, 5);
                KIT.is("of(0, " + told + ")", loom.of(0, told), told + 1);
                loom.set(0, told, 127);
                KIT.is("of(0, " + told + ")", loom.of(0, told), 127);
                loom.set(0, told, -127);
                KIT.is("of(0, " + told + ")", loom.of(0, told), -127);
            });
        }
        KIT.test("Promise 12, 'Tells something of a section': of each of 8 its own", () -> {
            TapLoom loom = new TapLoom();
            for (int s = 0; s < 8; s++) {
                Looms.add(loom, s % 3, s, s + 10, s + 20, s + 30, s + 40);
            }
            for (int s = 0; s < 8; s++) {
                KIT.are("section " + s, Looms.coefficients(loom, s), s, s + 10, s + 20, s + 30, s + 40);
                KIT.is("its way", loom.of(s, Looms.WAY), s % 3);
            }
        });
    }

    private static void stableIs(String which, int due, int[]... pairs) {
        KIT.test("Promise 12, '5 whether it is stable, 1 or 0', Terms " + which + ": " + due, () -> {
            TapLoom loom = Looms.with(0);
            for (int[] pair : pairs) {
                loom.set(0, Looms.A1, pair[0]);
                loom.set(0, Looms.A2, pair[1]);
                KIT.is("a1 " + pair[0] + ", a2 " + pair[1], loom.of(0, Looms.STABLE), due);
            }
        });
    }

    private static int[] a(int a1, int a2) {
        return new int[] {a1, a2};
    }

    private static void stable() {
        stableIs("as it is made", 1, a(0, 0));
        stableIs("'a2 is above -64', -63", 1, a(0, -63));
        stableIs("'a2 is above -64', -64, -65 and -127", 0, a(0, -64), a(0, -65), a(0, -127));
        stableIs("'and below 64', 63", 1, a(0, 63));
        stableIs("'and below 64', 64, 65 and 127", 0, a(0, 64), a(0, 65), a(0, 127), a(127, 64));
        stableIs("'a1 is below a2 and 64', one below", 1, a(63, 0), a(126, 63), a(64, 1), a(32, -31), a(73, 10));
        stableIs("'a1 is below a2 and 64', just so", 0, a(64, 0), a(127, 63), a(65, 1), a(33, -31), a(1, -63));
        stableIs("'a1, either way, is below', one below", 1, a(-63, 0), a(-126, 63), a(-64, 1), a(-32, -31));
        stableIs("'a1, either way, is below', just so", 0, a(-64, 0), a(-127, 63), a(-65, 1), a(-33, -31), a(-1, -63));
        stableIs("'a1, either way, is below', far above", 0, a(127, 0), a(-127, 0), a(127, -127), a(-127, -127));
        KIT.test("Promise 12, '5 whether it is stable': b0, b1 and b2 do not count", () -> {
            KIT.is("great ones", Looms.with(0, 127, 127, 127).of(0, Looms.STABLE), 1);
            KIT.is("lesser ones", Looms.with(0, -127, -127, -127).of(0, Looms.STABLE), 1);
        });
    }

    private static void place() {
        KIT.test("Promise 12, '6 its place in the chain, NONE': NONE outside, before and after", () -> {
            TapLoom loom = Looms.sections(2);
            KIT.is("before", loom.of(1, Looms.PLACE), TapLoom.NONE);
            loom.chain(1);
            KIT.is("in the chain", loom.of(1, Looms.PLACE), 0);
            loom.chain(1);
            KIT.is("after", loom.of(1, Looms.PLACE), TapLoom.NONE);
        });
        KIT.test("Promise 12, '6 its place in the chain': 0 to 7 of 8", () -> {
            TapLoom loom = Looms.sections(8);
            for (int s = 7; s >= 0; s--) {
                loom.chain(s);
            }
            for (int s = 0; s < 8; s++) {
                KIT.is("section " + s, loom.of(s, Looms.PLACE), 7 - s);
            }
        });
        KIT.test("Promise 12, '6 its place in the chain': one less, if one ahead is taken out", () -> {
            TapLoom loom = Looms.chainOfPlain(3, 3);
            loom.chain(0);
            KIT.is("section 1", loom.of(1, Looms.PLACE), 0);
            KIT.is("section 2", loom.of(2, Looms.PLACE), 1);
        });
        KIT.test("Promise 12, '6 its place in the chain': as it is arranged", () -> {
            TapLoom loom = Looms.feedbacks(a(0, 2), a(0, 1));
            loom.arrange();
            KIT.is("section 0", loom.of(0, Looms.PLACE), 1);
            KIT.is("section 1", loom.of(1, Looms.PLACE), 0);
        });
    }

    private static void outputs() {
        KIT.test("Promise 12, '7 its y1, 8 its y2': 0 and 0, then the latest and the one ahead of it", () -> {
            TapLoom loom = Looms.chained(0, 32);
            KIT.is("y1 first", loom.of(0, Looms.Y1), 0);
            loom.run(-10);
            KIT.is("y1 of one", loom.of(0, Looms.Y1), -5);
            KIT.is("y2 of one", loom.of(0, Looms.Y2), 0);
            loom.run(20);
            KIT.is("y1 of two", loom.of(0, Looms.Y1), 10);
            KIT.is("y2 of two", loom.of(0, Looms.Y2), -5);
            loom.run(30);
            KIT.is("y1 of three", loom.of(0, Looms.Y1), 15);
            KIT.is("y2 of three", loom.of(0, Looms.Y2), 10);
        });
        KIT.test("Promise 12, '7 its y1, 8 its y2': its own, not those of the chain", () -> {
            TapLoom loom = Looms.chainOf(Looms.row(32), Looms.row(16));
            Looms.runs(loom, 800, 400);
            KIT.is("y1 of 0", loom.of(0, Looms.Y1), 200);
            KIT.is("y2 of 0", loom.of(0, Looms.Y2), 400);
            KIT.is("y1 of 1", loom.of(1, Looms.Y1), 50);
            KIT.is("y2 of 1", loom.of(1, Looms.Y2), 100);
        });
        KIT.test("Promise 12, '7 its y1, 8 its y2': at the ends, as they are held", () -> {
            TapLoom loom = Looms.chained(0, 127);
            Looms.runs(loom, 32767, -32767);
            KIT.is("y1", loom.of(0, Looms.Y1), -32767);
            KIT.is("y2", loom.of(0, Looms.Y2), 32767);
        });
    }

    private static void way() {
        for (int way = 0; way <= 2; way++) {
            int made = way;
            KIT.test("Promise 12, '9 its way': " + way, () ->
                    KIT.is("of(0, 9)", Looms.with(made).of(0, Looms.WAY), made));
        }
    }

    private static void refused() {
        KIT.refusedBeyond("Promise 12, 'IndexOutOfBoundsException if there is no such section', of 3",
                Kit.INDEX, Looms::busy, 0, 2, (loom, section) -> loom.of(section, 0));
        KIT.refusedBeyond("Promise 12, 'IndexOutOfBoundsException if there is no such section', of 8",
                Kit.INDEX, Looms::busyFull, 0, 7, (loom, section) -> loom.of(section, 9));
        KIT.refusedBeyond("Promise 12, 'IllegalArgumentException if what is out of range', 'what: 0 to 9'",
                Kit.ARGUMENT, Looms::busy, 0, 9, (loom, what) -> loom.of(2, what));
        KIT.refused("Promise 12, with Terms 'the one that is named first': no section, and 10",
                Kit.INDEX, Looms::busy, loom -> loom.of(3, 10));
        KIT.refused("Promise 12, with Terms 'the one that is named first': section -1, and -1",
                Kit.INDEX, Looms::busy, loom -> loom.of(-1, -1));
    }

    private static void changesNothing() {
        for (int what = 0; what <= 9; what++) {
            int asked = what;
            KIT.asks("Promise 12, with Terms 'Questions change nothing': of(0, " + what + ")", Looms::busy,
                    loom -> loom.of(0, asked));
        }
    }
}
