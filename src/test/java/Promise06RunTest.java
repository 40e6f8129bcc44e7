/** Promise 6, run: its range, what it returns and keeps; how it is worked out stands with the Terms. */
final class Promise06RunTest {
    private static final Kit KIT = new Kit();

    public static void main(String[] args) {
        returnsOutput();
        range();
        KIT.end();
    }

    private static void returnsOutput() {
        KIT.test("Promise 6, 'Returns the output': of one section", () ->
                KIT.are("run", Looms.runs(Looms.chained(0, 32, 64), 10, 4, 0), 5, 12, 4));
        KIT.test("Promise 6, 'Returns the output': that which output(0) tells, and y1 of the last section", () -> {
            TapLoom loom = Looms.busy();
            int y = loom.run(1234);
            KIT.is("output(0)", loom.output(0), y);
            KIT.is("y1 of section 0, the last", loom.of(0, Looms.Y1), y);
        });
        KIT.test("Promise 6, 'Lets an input go through the chain': x2 is x1 then, and y2 is y1", () -> {
            TapLoom loom = Looms.chained(0, 64, 0, 64, 0, 0);
            KIT.are("run", Looms.runs(loom, 1, 20, 300, 4000, 0, 0), 1, 20, 301, 4020, 300, 4000);
            KIT.is("y1", loom.of(0, Looms.Y1), 4000);
            KIT.is("y2", loom.of(0, Looms.Y2), 300);
        });
        KIT.test("Promise 6, 'Lets an input go through the chain': taps and samples stay", () -> {
            TapLoom loom = Looms.busy();
            long[] before = {loom.tapOf(7), loom.sifted(0), loom.answer(3)};
            loom.run(96);
            KIT.are("then", new long[] {loom.tapOf(7), loom.sifted(0), loom.answer(3)}, before);
        });
    }

    private static void range() {
        KIT.test("Promise 6, 'x: -32767 to 32767': both ends are taken, by an empty chain", () -> {
            TapLoom loom = new TapLoom();
            KIT.are("run", Looms.runs(loom, -32767, 32767, 0), -32767, 32767, 0);
            KIT.is("outputs are kept", loom.rest(), 3);
        });
        KIT.test("Promise 6, 'x: -32767 to 32767': both ends are taken, by a section", () -> {
            KIT.are("run", Looms.runs(Looms.chained(1), -32767, 32767), -32767, 32767);
            KIT.are("run the other way", Looms.runs(Looms.chained(1, -64), -32767, 32767), 32767, -32767);
        });
        KIT.refusedBeyond("Promise 6, 'IllegalArgumentException if x is out of range', 'x: -32767 to 32767'",
                Kit.ARGUMENT, Looms::busy, -32767, 32767, TapLoom::run);
        KIT.refusedBeyond("Promise 6, 'IllegalArgumentException if x is out of range', through an empty chain",
                Kit.ARGUMENT, TapLoom::new, -32767, 32767, TapLoom::run);
        KIT.test("Promise 6, with Terms 'A call that throws an exception changes nothing': no output is kept", () -> {
            TapLoom loom = Looms.chained(0, 64, 64, 0, 0, 0);
            loom.run(7);
            KIT.throwsDue(Kit.ARGUMENT, loom, x -> x.run(32768));
            KIT.is("output(0)", loom.output(0), 7);
            KIT.is("the next one has 7 ahead of it", loom.run(0), 7);
            KIT.is("outputs are kept", loom.rest(), 2);
        });
    }
}
