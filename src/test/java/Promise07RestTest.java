/** Promise 7, rest, sentence by sentence. */
final class Promise07RestTest {
    private static final Kit KIT = new Kit();

    public static void main(String[] args) {
        zeroes();
        counts();
        forgets();
        leaves();
        KIT.end();
    }

    private static void zeroes() {
        KIT.test("Promise 7, 'Makes all x1, x2, y1 and y2 0': y1 and y2", () -> {
            TapLoom loom = Looms.chained(0);
            Looms.runs(loom, 11, 22);
            loom.rest();
            KIT.is("y1", loom.of(0, Looms.Y1), 0);
            KIT.is("y2", loom.of(0, Looms.Y2), 0);
        });
        KIT.test("Promise 7, 'Makes all x1, x2, y1 and y2 0': x1 alone comes to nothing", () -> {
            TapLoom loom = Looms.chained(0, 64, 64);
            Looms.runs(loom, 11, 22);
            loom.rest();
            KIT.are("run", Looms.runs(loom, 0, 0), 0, 0);
        });
        KIT.test("Promise 7, 'Makes all x1, x2, y1 and y2 0': x2 alone comes to nothing", () -> {
            TapLoom loom = Looms.chained(0, 64, 0, 64);
            Looms.runs(loom, 11, 22);
            loom.rest();
            KIT.are("run", Looms.runs(loom, 0, 0), 0, 0);
        });
        KIT.test("Promise 7, 'Makes all x1, x2, y1 and y2 0': y1 and y2 come to nothing", () -> {
            TapLoom loom = Looms.chained(0, 64, 0, 0, -64, -64);
            Looms.runs(loom, 11, 22);
            loom.rest();
            KIT.are("run", Looms.runs(loom, 0, 0), 0, 0);
        });
        KIT.test("Promise 7, 'Makes all x1, x2, y1 and y2 0': of all 8 sections in the chain", () -> {
            TapLoom loom = Looms.chainOfPlain(8, 8);
            Looms.runs(loom, 11, 22);
            loom.rest();
            for (int s = 0; s < 8; s++) {
                KIT.is("y1 of " + s, loom.of(s, Looms.Y1), 0);
                KIT.is("y2 of " + s, loom.of(s, Looms.Y2), 0);
            }
        });
        KIT.test("Promise 7, 'Makes all x1, x2, y1 and y2 0': of sections outside the chain too", () -> {
            TapLoom loom = Looms.chained(0, 64, 64, 64);
            Looms.runs(loom, 11, 22);
            loom.chain(0);
            loom.rest();
            KIT.is("y1", loom.of(0, Looms.Y1), 0);
            KIT.is("y2", loom.of(0, Looms.Y2), 0);
            loom.chain(0);
            KIT.are("run", Looms.runs(loom, 0, 0), 0, 0);
        });
    }

    private static void counts() {
        for (int count : new int[] {0, 1, 2, 15, 16}) {
            KIT.test("Promise 7, 'returns how many were kept': " + count + " of " + count, () ->
                    KIT.is("rest()", ran(count).rest(), count));
        }
        for (int count : new int[] {17, 18, 40}) {
            KIT.test("Promise 7, 'returns how many were kept', Terms 'the latest 16': 16 of " + count, () ->
                    KIT.is("rest()", ran(count).rest(), 16));
        }
        KIT.test("Promise 7, 'returns how many were kept': none the second time, and those since then", () -> {
            TapLoom loom = ran(20);
            loom.rest();
            KIT.is("rest() again", loom.rest(), 0);
            loom.run(0);
            KIT.is("rest() after one more", loom.rest(), 1);
        });
        KIT.test("Promise 7, 'returns how many were kept': outputs of 0 count", () -> {
            TapLoom loom = new TapLoom();
            Looms.runs(loom, 0, 0, 0);
            KIT.is("rest()", loom.rest(), 3);
        });
    }

    private static TapLoom ran(int count) {
        TapLoom loom = new TapLoom();
        for (int i = 1; i <= count; i++) {
            loom.run(i);
        }
        return loom;
    }

    private static void forgets() {
        KIT.test("Promise 7, 'forgets the outputs': all 16 are 0 then", () -> {
            TapLoom loom = ran(16);
            loom.rest();
            for (int back = 0; back <= 16; back++) {
                KIT.is("output(" + back + ")", loom.output(back), 0);
            }
        });
        KIT.test("Promise 7, 'forgets the outputs': those from before do not come back", () -> {
            TapLoom loom = ran(20);
            loom.rest();
            loom.run(5);
            KIT.is("output(0)", loom.output(0), 5);
            for (int back = 1; back <= 16; back++) {
                KIT.is("output(" + back + ")", loom.output(back), 0);
            }
        });
    }

    private static void leaves() {
        KIT.test("Promise 7, rest: nothing else becomes 0", () -> {
            TapLoom loom = Looms.busy();
            KIT.is("rest()", loom.rest(), 5);
            KIT.are("section 0", Looms.coefficients(loom, 0), 40, 30, -20, 25, 10);
            KIT.is("its way", loom.of(1, Looms.WAY), 1);
            KIT.are("the chain", Looms.order(loom, 3), 2, 0);
            KIT.is("tap 7", loom.tapOf(7), 77);
            KIT.is("what is asked of tone 7", loom.ask(7, 0), 16);
            KIT.is("samples", loom.sample(0), 6);
        });
        KIT.test("Promise 7, rest: what goes through afterwards is as at first", () -> {
            TapLoom loom = Looms.chained(2, 40, 30, -20, 25, 10);
            long[] first = Looms.runs(loom, 500, -300, 77, 0, 0);
            loom.rest();
            KIT.are("run", Looms.runs(loom, 500, -300, 77, 0, 0), first);
        });
    }
}
