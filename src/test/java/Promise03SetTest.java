/** Promise 3, set, sentence by sentence. */
final class Promise03SetTest {
    private static final String[] NAMES = {"b0", "b1", "b2", "a1", "a2"};

    private static final Kit KIT = new Kit();

    public static void main(String[] args) {
        sets();
        sections();
        whiches();
        values();
        first();
        KIT.end();
    }

    private static void sets() {
        for (int which = Looms.B0; which <= Looms.A2; which++) {
            int set = which;
            KIT.test("Promise 3, 'which: 0 to 2 b0 to b2, 3 a1, 4 a2': " + which + " sets " + NAMES[which]
                    + " and no other", () -> {
                TapLoom loom = Looms.with(0, 11, 12, 13, 14, 15);
                loom.set(0, set, -7);
                long[] due = {11, 12, 13, 14, 15};
                due[set] = -7;
                KIT.are("of", Looms.coefficients(loom, 0), due);
            });
        }
        KIT.test("Promise 3, 'Sets a coefficient': b0 works on x, b1 on x1, b2 on x2", () -> {
            KIT.are("b0", Looms.runs(Looms.chained(0, 64, 0, 0), 5, 0, 0), 5, 0, 0);
            KIT.are("b1", Looms.runs(Looms.chained(0, 0, 64, 0), 5, 0, 0), 0, 5, 0);
            KIT.are("b2", Looms.runs(Looms.chained(0, 0, 0, 64), 5, 0, 0), 0, 0, 5);
        });
        KIT.test("Promise 3, 'Sets a coefficient': a1 works on y1, a2 on y2", () -> {
            KIT.are("a1", Looms.runs(Looms.chained(0, 64, 0, 0, -32, 0), 8, 0, 0, 0), 8, 4, 2, 1);
            KIT.are("a2", Looms.runs(Looms.chained(0, 64, 0, 0, 0, -32), 8, 0, 0, 0), 8, 0, 4, 0);
        });
        KIT.test("Promise 3, 'Returns the one before': 64 for b0, 0 for the others, first", () -> {
            TapLoom loom = Looms.with(0);
            for (int which = Looms.B0; which <= Looms.A2; which++) {
                KIT.is("set " + NAMES[which], loom.set(0, which, which + 1), which == Looms.B0 ? 64 : 0);
            }
        });
        KIT.test("Promise 3, 'Returns the one before': each of them, below 0 too", () -> {
            TapLoom loom = Looms.with(0, -127, -1, 0, 1, 127);
            long[] due = {-127, -1, 0, 1, 127};
            for (int which = Looms.B0; which <= Looms.A2; which++) {
                KIT.is("set " + NAMES[which], loom.set(0, which, 50 + which), due[which]);
                KIT.is("set " + NAMES[which] + " again", loom.set(0, which, 0), 50 + which);
            }
        });
        KIT.test("Promise 3, 'Returns the one before': the same, if it is set to what it is", () -> {
            TapLoom loom = Looms.with(0);
            KIT.is("set b0", loom.set(0, Looms.B0, 64), 64);
            KIT.is("set b0 again", loom.set(0, Looms.B0, 64), 64);
        });
    }

    private static void sections() {
        KIT.test("Promise 3, 'section: its number': the first and the last of 8, no other changes", () -> {
            TapLoom loom = Looms.sections(8);
            loom.set(0, Looms.B0, 10);
            loom.set(7, Looms.A2, 20);
            KIT.are("section 0", Looms.coefficients(loom, 0), 10, 0, 0, 0, 0);
            KIT.are("section 7", Looms.coefficients(loom, 7), 64, 0, 0, 0, 20);
            for (int s = 1; s < 7; s++) {
                KIT.are("section " + s, Looms.coefficients(loom, s), 64, 0, 0, 0, 0);
            }
        });
        KIT.refusedBeyond("Promise 3, 'IndexOutOfBoundsException if there is no such section', of 3",
                Kit.INDEX, Looms::busy, 0, 2, (loom, section) -> loom.set(section, 0, 5));
        KIT.refusedBeyond("Promise 3, 'IndexOutOfBoundsException if there is no such section', of 8",
                Kit.INDEX, Looms::busyFull, 0, 7, (loom, section) -> loom.set(section, 4, -5));
        KIT.refused("Promise 3, 'IndexOutOfBoundsException if there is no such section': 0 in a new object",
                Kit.INDEX, TapLoom::new, loom -> loom.set(0, 0, 1));
    }

    private static void whiches() {
        KIT.refusedBeyond("Promise 3, 'IllegalArgumentException if which is out of range', 'which: 0 to 4'",
                Kit.ARGUMENT, Looms::busy, 0, 4, (loom, which) -> loom.set(1, which, 5));
    }

    private static void values() {
        for (int which = Looms.B0; which <= Looms.A2; which++) {
            int set = which;
            KIT.test("Promise 3, 'value: -127 to 127': both ends are taken for " + NAMES[which], () -> {
                TapLoom loom = Looms.with(0, 1, 1, 1, 1, 1);
                KIT.is("set to 127", loom.set(0, set, 127), 1);
                KIT.is("then", loom.of(0, set), 127);
                KIT.is("set to -127", loom.set(0, set, -127), 127);
                KIT.is("then", loom.of(0, set), -127);
                KIT.is("set to 0", loom.set(0, set, 0), -127);
                KIT.is("then", loom.of(0, set), 0);
            });
            KIT.refusedBeyond("Promise 3, 'IllegalArgumentException if value is out of range', 'value: -127 to 127', "
                    + NAMES[which], Kit.ARGUMENT, Looms::busy, -127, 127,
                    (loom, value) -> loom.set(2, set, value));
        }
    }

    private static void first() {
        KIT.refused("Promise 3, with Terms 'the one that is named first': no section and no which",
                Kit.INDEX, Looms::busy, loom -> loom.set(3, 5, 0));
        KIT.refused("Promise 3, with Terms 'the one that is named first': no section and no value",
                Kit.INDEX, Looms::busy, loom -> loom.set(-1, 0, 128));
        KIT.refused("Promise 3, with Terms 'the one that is named first': nothing in its range",
                Kit.INDEX, Looms::busyFull, loom -> loom.set(8, -1, -128));
        KIT.refused("Promise 3, 'if which or value is out of range': both of them",
                Kit.ARGUMENT, Looms::busy, loom -> loom.set(0, 5, 128));
    }
}
