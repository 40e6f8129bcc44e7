/** The Terms of sections and chains: how an output is worked out, rounded, held and handed on. */
final class TermsSectionsTest {
    private static final Kit KIT = new Kit();

    public static void main(String[] args) {
        in64ths();
        atFirst();
        sum();
        towards0();
        down();
        nearest();
        roundedOnce();
        held();
        chain();
        changes();
        kept();
        KIT.end();
    }

    private static void runs(String title, TapLoom loom, int[] inputs, long... due) {
        KIT.test("Terms, sections (Promise 6): " + title, () -> KIT.are("run", Looms.runs(loom, inputs), due));
    }

    private static int[] in(int... inputs) {
        return inputs;
    }

    private static void in64ths() {
        runs("'-127 to 127 each, in 64ths', b0 of 127", Looms.chained(0, 127), in(64, -64), 127, -127);
        runs("'-127 to 127 each, in 64ths', b0 of -127", Looms.chained(0, -127), in(64, -64), -127, 127);
        runs("'-127 to 127 each', b1 of 127", Looms.chained(0, 0, 127), in(64, 0, 0), 0, 127, 0);
        runs("'-127 to 127 each', b1 of -127", Looms.chained(0, 0, -127), in(64, 0, 0), 0, -127, 0);
        runs("'-127 to 127 each', b2 of 127", Looms.chained(0, 0, 0, 127), in(64, 0, 0), 0, 0, 127);
        runs("'-127 to 127 each', b2 of -127", Looms.chained(0, 0, 0, -127), in(64, 0, 0), 0, 0, -127);
        runs("'-127 to 127 each', a1 of 127", Looms.chained(0, 64, 0, 0, 127), in(64, 0), 64, -127);
        runs("'-127 to 127 each', a1 of -127", Looms.chained(0, 64, 0, 0, -127), in(64, 0), 64, 127);
        runs("'-127 to 127 each', a2 of 127", Looms.chained(0, 64, 0, 0, 0, 127), in(64, 0, 0), 64, 0, -127);
        runs("'-127 to 127 each', a2 of -127", Looms.chained(0, 64, 0, 0, 0, -127), in(64, 0, 0), 64, 0, 127);
    }

    private static void atFirst() {
        runs("'all 0 at first', the first output is that of b0 alone", Looms.chained(0, 64, 127, 127, 127, 127),
                in(5), 5);
        runs("'all 0 at first', an input of 0 gives 0, way 0", Looms.chained(0, 127, 127, 127, 127, 127), in(0, 0), 0, 0);
        runs("'all 0 at first', an input of 0 gives 0, way 1", Looms.chained(1, 127, 127, 127, 127, 127), in(0, 0), 0, 0);
        runs("'all 0 at first', an input of 0 gives 0, way 2", Looms.chained(2, 127, 127, 127, 127, 127), in(0, 0), 0, 0);
    }

    private static void sum() {
        // 640; 320 - 160; -160 - 40 + 320; -30 + 80
        runs("'b0 x, b1 x1 and b2 x2, together, less a1 y1 and a2 y2', all of them",
                Looms.chained(0, 64, 32, -16, 16, -32), in(640, 0, 0, 0), 640, 160, 120, 50);
        runs("'b0 x, b1 x1 and b2 x2', the ones ahead are inputs, not outputs", Looms.chained(0, 32, 64, 64),
                in(100, 0, 0, 0), 50, 100, 100, 0);
        runs("'less a1 y1 and a2 y2', the ones ahead are outputs, not inputs", Looms.chained(0, 32, 0, 0, -64, 0),
                in(100, 0, 0), 50, 50, 50);
        runs("'the ones ahead of it x1 and x2', the next but one is not there any more", Looms.chained(0, 0, 64, 32),
                in(2, 20, 200, 0, 0, 0), 0, 2, 21, 210, 100, 0);
        runs("'the outputs ahead y1 and y2', y is y1 and y2 and the input", Looms.chained(0, 64, 0, 0, -64, -64),
                in(1, 0, 0, 0, 0, 0, 0), 1, 1, 2, 3, 5, 8, 13);
    }

    private static void towards0() {
        TapLoom loom = Looms.chained(0, 1);
        runs("'0 towards 0', from 0 to 64 by 64", loom, in(0, 1, 31, 32, 33, 63, 64), 0, 0, 0, 0, 0, 0, 1);
        runs("'0 towards 0', above 64 by 64", loom, in(65, 95, 96, 127, 128, 129), 1, 1, 1, 1, 2, 2);
        runs("'0 towards 0', from 0 to -64 by 64", loom, in(-1, -31, -32, -33, -63, -64), 0, 0, 0, 0, 0, -1);
        runs("'0 towards 0', below -64 by 64", loom, in(-65, -95, -96, -127, -128, -129), -1, -1, -1, -1, -2, -2);
        runs("'0 towards 0', at the ends", loom, in(32767, -32767), 511, -511);
    }

    private static void down() {
        TapLoom loom = Looms.chained(1, 1);
        runs("'1 down', from 0 to 64 by 64", loom, in(0, 1, 31, 32, 33, 63, 64), 0, 0, 0, 0, 0, 0, 1);
        runs("'1 down', above 64 by 64", loom, in(65, 95, 96, 127, 128, 129), 1, 1, 1, 1, 2, 2);
        runs("'1 down', from 0 to -64 by 64", loom, in(-1, -31, -32, -33, -63, -64), -1, -1, -1, -1, -1, -1);
        runs("'1 down', below -64 by 64", loom, in(-65, -95, -96, -127, -128, -129), -2, -2, -2, -2, -2, -3);
        runs("'1 down', at the ends", loom, in(32767, -32767), 511, -512);
    }

    private static void nearest() {
        TapLoom loom = Looms.chained(2, 1);
        runs("'2 to the nearest', just below and above a half", loom, in(31, 33, 95, 97), 0, 1, 1, 2);
        runs("'2 to the nearest', just above and below minus a half", loom, in(-31, -33, -95, -97), 0, -1, -1, -2);
        runs("'of two the greater one', a half, one and a half, two and a half", loom, in(32, 96, 160), 1, 2, 3);
        runs("'of two the greater one', minus a half, and one more and two", loom, in(-32, -96, -160), 0, -1, -2);
        runs("'2 to the nearest', whole numbers stay", loom, in(0, 64, 128, -64, -128), 0, 1, 2, -1, -2);
        runs("'2 to the nearest', just beside whole numbers", loom, in(1, 63, 65, -1, -63, -65), 0, 1, 1, 0, -1, -1);
        runs("'2 to the nearest', at the ends", loom, in(32767, -32767), 512, -512);
    }

    private static void roundedOnce() {
        runs("'together ... divided by 64, rounded so', a half and a half are 1 towards 0", Looms.chained(0, 32, 32),
                in(1, 1), 0, 1);
        runs("'together ... divided by 64, rounded so', a half less a half is 0 down", Looms.chained(1, 32, -32),
                in(1, 1), 0, 0);
        runs("'together ... divided by 64, rounded so', a half and a half are 1 to the nearest",
                Looms.chained(2, 32, 32), in(1, 1), 1, 1);
        runs("'less a1 y1 and a2 y2, divided by 64, rounded so', with the outputs", Looms.chained(0, 32, 0, 0, -32, 0),
                in(2, 1, 1), 1, 1, 1);
        runs("'rounded so', of the feedback: minus one and a half is -2 down", Looms.chained(1, 64, 0, 0, 32, 0),
                in(3, 0), 3, -2);
        runs("'rounded so', of the feedback: minus one and a half is -1 towards 0", Looms.chained(0, 64, 0, 0, 32, 0),
                in(3, 0), 3, -1);
        runs("'rounded so', of the feedback: minus one and a half is -1 to the nearest",
                Looms.chained(2, 64, 0, 0, 32, 0), in(3, 0), 3, -1);
    }

    private static void held() {
        runs("'held to -32767 to 32767', 32766, 32767 and 32768", Looms.chained(0, 64, 64),
                in(16383, 16383, 16384, 16384), 16383, 32766, 32767, 32767);
        runs("'held to -32767 to 32767', -32766, -32767 and -32768", Looms.chained(0, 64, 64),
                in(-16383, -16383, -16384, -16384), -16383, -32766, -32767, -32767);
        runs("'held to -32767 to 32767', -32768 of rounding down", Looms.chained(1, 64, 32), in(-1, -32767),
                -1, -32767);
        runs("'held to -32767 to 32767', 32768 of rounding to the nearest", Looms.chained(2, 64, 32), in(1, 32767),
                1, 32767);
        runs("'held to -32767 to 32767', the greatest sum that there is", Looms.chained(0, 127, 127, 127, -127, -127),
                in(32767, 32767, 32767, 32767), 32767, 32767, 32767, 32767);
        runs("'held to -32767 to 32767', the least sum that there is", Looms.chained(1, 127, 127, 127, -127, -127),
                in(-32767, -32767, -32767, -32767), -32767, -32767, -32767, -32767);
        runs("'held', and y1 is what was held", Looms.chained(0, 127, 0, 0, 32, 0), in(32767, 0), 32767, -16383);
        runs("'held', and the next section gets what was held", Looms.chainOf(Looms.row(127), Looms.row(32)),
                in(32767, -32767), 16383, -16383);
    }

    private static void chain() {
        runs("'at first empty', 'without sections the input is' the output", new TapLoom(), in(0, 7, -9), 0, 7, -9);
        runs("'without sections the input is' the output, though there are some outside", Looms.with(0, 32),
                in(8, -9), 8, -9);
        runs("'an input goes to the first one, each output to the next one', three of them",
                Looms.chainOf(Looms.row(32), Looms.row(0, 64), Looms.row(-64)), in(100, 40, 0), 0, -50, -20);
        KIT.test("Terms, sections (Promise 6): 'an input goes to the first one', in the order of the chain", () -> {
            TapLoom loom = new TapLoom();
            Looms.add(loom, 0, 127);
            Looms.add(loom, 0, 32);
            loom.chain(1);
            loom.chain(0);
            // half first, so that it is not held
            KIT.is("run", loom.run(32766), 16383 * 127 / 64);
            loom.chain(1);
            loom.chain(1);
            KIT.is("run the other way round", loom.run(32766), 16383);
        });
        KIT.test("Terms, sections (Promise 6): 'each output to the next one', all 8 of them", () -> {
            TapLoom loom = new TapLoom();
            for (int s = 0; s < 8; s++) {
                loom.chain(Looms.add(loom, s % 3, 32));
            }
            KIT.is("run", loom.run(256 * 5), 5);
            for (int s = 0; s < 8; s++) {
                KIT.is("y1 of " + s, loom.of(s, Looms.Y1), 5 * (128 >> s));
            }
        });
        KIT.test("Terms, sections (Promise 6): 'the output of the last one is that of the chain'", () -> {
            TapLoom loom = Looms.chainOf(Looms.row(32), Looms.row(96));
            KIT.is("run", loom.run(10), 7);
            KIT.is("y1 of the last one", loom.of(1, Looms.Y1), 7);
            KIT.is("output(0)", loom.output(0), 7);
        });
    }

    private static void changes() {
        KIT.test("Terms, sections (Promises 3 and 6): 'A section changes in the chain with its numbers'", () -> {
            TapLoom loom = Looms.chained(0);
            KIT.is("first", loom.run(10), 10);
            loom.set(0, Looms.B0, -32);
            KIT.is("then", loom.run(10), -5);
        });
        KIT.test("Terms, sections (Promises 3 and 6): 'and keeps its x1, x2', when a number is set", () -> {
            TapLoom loom = Looms.chained(0);
            Looms.runs(loom, 3, 50);
            loom.set(0, Looms.B1, 64);
            loom.set(0, Looms.B2, 64);
            KIT.are("run", Looms.runs(loom, 0, 0, 0), 53, 50, 0);
        });
        KIT.test("Terms, sections (Promises 3 and 6): 'and keeps its y1 and y2', when a number is set", () -> {
            TapLoom loom = Looms.chained(0);
            Looms.runs(loom, 3, 50);
            loom.set(0, Looms.A1, -64);
            loom.set(0, Looms.A2, 64);
            KIT.is("y1", loom.of(0, Looms.Y1), 50);
            KIT.is("y2", loom.of(0, Looms.Y2), 3);
            KIT.are("run", Looms.runs(loom, 0, 0), 47, -3);
        });
    }

    private static void kept() {
        KIT.test("Terms, sections (Promises 6, 7 and 13): 'The latest 16 outputs of the chain are kept', not 17", () -> {
            TapLoom loom = new TapLoom();
            for (int i = 1; i <= 17; i++) {
                loom.run(i);
            }
            KIT.is("output(15)", loom.output(15), 2);
            KIT.is("output(16)", loom.output(16), 0);
            KIT.is("rest()", loom.rest(), 16);
        });
        KIT.test("Terms, sections (Promises 4 and 13): the outputs are those of the chain, not of a section", () -> {
            TapLoom loom = Looms.sections(2);
            loom.run(5);
            loom.chain(1);
            loom.run(6);
            loom.chain(1);
            loom.run(7);
            KIT.is("output(0)", loom.output(0), 7);
            KIT.is("output(1)", loom.output(1), 6);
            KIT.is("output(2)", loom.output(2), 5);
        });
    }
}
