/** Promises 1 to 7, 12 and 13: sections, the chain, what goes through it, and what is told of it. */
final class SectionsTest {
    private static final int B0 = 0, B1 = 1, B2 = 2, A1 = 3, A2 = 4;
    private static final int STABLE = 5, PLACE = 6, Y1 = 7, Y2 = 8, WAY = 9;

    private static final Check CHECK = new Check();

    public static void main(String[] args) {
        promise1();
        promise2();
        promise3();
        promise4();
        promise5Order();
        promise5Moved();
        promise6Rounding();
        promise6Feedback();
        promise6Holding();
        promise6Chain();
        promise7();
        promise12();
        promise12Stable();
        promise13();
        CHECK.end();
    }

    private static TapLoom withSection(int way, int... coefficients) {
        TapLoom loom = new TapLoom();
        add(loom, way, coefficients);
        return loom;
    }

    private static int add(TapLoom loom, int way, int... coefficients) {
        int number = loom.section(way);
        for (int i = 0; i < coefficients.length; i++) {
            loom.set(number, i, coefficients[i]);
        }
        return number;
    }

    private static void promise1() {
        TapLoom loom = new TapLoom();
        CHECK.refusesIndex("new of(0, 0)", () -> loom.of(0, 0));
        CHECK.due("new output", loom.output(0), 0);
        CHECK.due("new rest", loom.rest(), 0);
        CHECK.due("new arrange", loom.arrange(), 0);
        CHECK.due("new sifted", loom.sifted(0), TapLoom.NONE);
        for (int i = 0; i < 32; i++) {
            CHECK.due("new tapOf " + i, loom.tapOf(i), 0);
            CHECK.due("new answer " + i, loom.answer(i), 0);
            CHECK.due("new asked " + i, loom.ask(i, 0), 0);
        }
        for (int where = 0; where <= 2; where++) {
            CHECK.due("new gain", loom.gain(where, false), 1);
            CHECK.due("new gain's divisor", loom.gain(where, true), 1);
        }
        TapLoom other = new TapLoom();
        other.section(0);
        other.tap(0, 5);
        CHECK.refusesIndex("another's section", () -> loom.of(0, 0));
        CHECK.due("another's tap", loom.tapOf(0), 0);
    }

    private static void promise2() {
        TapLoom loom = new TapLoom();
        CHECK.refusesArgument("section(-1)", () -> loom.section(-1));
        CHECK.refusesArgument("section(3)", () -> loom.section(3));
        CHECK.refusesArgument("section(min)", () -> loom.section(Integer.MIN_VALUE));
        for (int i = 0; i < 8; i++) {
            CHECK.due("section number", loom.section(i % 3), i);
            CHECK.due("b0", loom.of(i, B0), 64);
            for (int which = B1; which <= A2; which++) {
                CHECK.due("coefficient " + which, loom.of(i, which), 0);
            }
            CHECK.due("its way", loom.of(i, WAY), i % 3);
            CHECK.due("its place", loom.of(i, PLACE), TapLoom.NONE);
            CHECK.due("its y1", loom.of(i, Y1), 0);
        }
        CHECK.refusesState("a ninth section", () -> loom.section(0));
        CHECK.refusesArgument("a ninth of no way", () -> loom.section(3));
        CHECK.refusesIndex("of(8)", () -> loom.of(8, 0));
        loom.chain(7);
        CHECK.due("output is input", loom.run(-12345), -12345);
    }

    private static void promise3() {
        TapLoom loom = withSection(0);
        CHECK.due("set b0", loom.set(0, B0, -127), 64);
        CHECK.due("set b0 again", loom.set(0, B0, 127), -127);
        CHECK.due("set a2", loom.set(0, A2, 5), 0);
        CHECK.due("set a2 again", loom.set(0, A2, 6), 5);
        CHECK.due("b0 told", loom.of(0, B0), 127);
        CHECK.refusesIndex("set(-1)", () -> loom.set(-1, 0, 0));
        CHECK.refusesIndex("set(1)", () -> loom.set(1, 0, 0));
        CHECK.refusesIndex("set(1), all wrong", () -> loom.set(1, 9, 999));
        CHECK.refusesArgument("which -1", () -> loom.set(0, -1, 0));
        CHECK.refusesArgument("which 5", () -> loom.set(0, 5, 0));
        CHECK.refusesArgument("value 128", () -> loom.set(0, B0, 128));
        CHECK.refusesArgument("value -128", () -> loom.set(0, B0, -128));
        CHECK.due("b0 after refusals", loom.of(0, B0), 127);
        CHECK.due("b1 after refusals", loom.of(0, B1), 0);
    }

    private static void promise4() {
        TapLoom loom = new TapLoom();
        CHECK.refusesIndex("chain(0) without sections", () -> loom.chain(0));
        for (int i = 0; i < 8; i++) {
            loom.section(0);
        }
        for (int i = 0; i < 8; i++) {
            CHECK.due("chain grows", loom.chain(7 - i), i + 1);
            CHECK.due("its place", loom.of(7 - i, PLACE), i);
        }
        CHECK.due("chain shrinks", loom.chain(5), 7);
        CHECK.due("taken out", loom.of(5, PLACE), TapLoom.NONE);
        CHECK.due("ahead of it", loom.of(6, PLACE), 1);
        CHECK.due("behind it", loom.of(4, PLACE), 2);
        CHECK.due("last", loom.of(0, PLACE), 6);
        CHECK.due("put in behind", loom.chain(5), 8);
        CHECK.due("at the end", loom.of(5, PLACE), 7);
        CHECK.refusesIndex("chain(-1)", () -> loom.chain(-1));
        CHECK.refusesIndex("chain(8)", () -> loom.chain(8));
        CHECK.due("place after refusals", loom.of(5, PLACE), 7);
    }

    private static void promise5Order() {
        TapLoom loom = new TapLoom();
        add(loom, 0, 64, 0, 0, 5, 10);
        add(loom, 0, 64, 0, 0, -9, -3);
        add(loom, 0, 64, 0, 0, -4, 10);
        add(loom, 0, 64, 0, 0, -5, 10);
        add(loom, 0, 64, 0, 0, 0, 10);
        for (int i = 4; i >= 0; i--) {
            loom.chain(i);
        }
        CHECK.due("4 3 2 1 0 becomes 1 4 2 0 3", loom.arrange(), 4);
        int[] places = {3, 0, 2, 4, 1};
        for (int i = 0; i < 5; i++) {
            CHECK.due("place of " + i, loom.of(i, PLACE), places[i]);
        }
        CHECK.due("in order already", loom.arrange(), 0);
    }

    private static void promise5Moved() {
        TapLoom loom = new TapLoom();
        for (int i = 0; i < 4; i++) {
            add(loom, 0, 64, 0, 0, 0, i);
        }
        loom.chain(1);
        loom.chain(2);
        CHECK.due("two in order", loom.arrange(), 0);
        loom.chain(0);
        CHECK.due("all three move", loom.arrange(), 3);
        loom.chain(3);
        CHECK.due("none moves", loom.arrange(), 0);
        loom.set(3, A2, -1);
        loom.set(2, A2, -2);
        CHECK.due("0 1 2 3 becomes 2 3 0 1", loom.arrange(), 4);
        CHECK.due("the first one", loom.of(2, PLACE), 0);
        loom.chain(0);
        loom.chain(0);
        CHECK.due("0 was put behind 1", loom.arrange(), 2);
        TapLoom equals = new TapLoom();
        for (int i = 0; i < 3; i++) {
            equals.section(0);
        }
        equals.chain(2);
        equals.chain(1);
        equals.chain(0);
        CHECK.due("of the same by numbers", equals.arrange(), 2);
        CHECK.due("the middle stays", equals.of(1, PLACE), 1);
        CHECK.due("0 is first", equals.of(0, PLACE), 0);
    }

    private static void promise6Rounding() {
        int[] inputs = {3, -3, 1, -1, 2, -2, 0, 5, -5};
        // halves, so that each way to round is told from the others
        int[][] due = {
            {1, -1, 0, 0, 1, -1, 0, 2, -2},
            {1, -2, 0, -1, 1, -1, 0, 2, -3},
            {2, -1, 1, 0, 1, -1, 0, 3, -2}};
        for (int way = 0; way <= 2; way++) {
            TapLoom loom = withSection(way, 32);
            loom.chain(0);
            for (int i = 0; i < inputs.length; i++) {
                CHECK.due("way " + way + ", half of " + inputs[i], loom.run(inputs[i]), due[way][i]);
            }
        }
        TapLoom near = withSection(2, 1);
        near.chain(0);
        CHECK.due("31 by 64", near.run(31), 0);
        CHECK.due("33 by 64", near.run(33), 1);
        CHECK.due("-33 by 64", near.run(-33), -1);
        CHECK.due("-31 by 64", near.run(-31), 0);
        CHECK.due("-32 by 64", near.run(-32), 0);
    }

    private static void promise6Feedback() {
        TapLoom loom = withSection(0, 64, 32, -16, 16, -32);
        loom.chain(0);
        CHECK.due("first", loom.run(640), 640);
        CHECK.due("x1 and y1", loom.run(0), 320 - 160);
        CHECK.due("x2, y1 and y2", loom.run(0), -160 - 40 + 320);
        CHECK.due("y1", loom.of(0, Y1), 120);
        CHECK.due("y2", loom.of(0, Y2), 160);
        CHECK.due("y1 and y2 alone", loom.run(0), -30 + 80);
        loom.set(0, A1, 0);
        loom.set(0, A2, -64);
        CHECK.due("kept after set", loom.run(0), 120);
        CHECK.refusesArgument("run(32768)", () -> loom.run(32768));
        CHECK.refusesArgument("run(-32768)", () -> loom.run(-32768));
        CHECK.refusesArgument("run(max)", () -> loom.run(Integer.MAX_VALUE));
        CHECK.due("nothing went through", loom.of(0, Y1), 120);
        CHECK.due("no output came", loom.output(5), 0);
        CHECK.due("five outputs", loom.output(4), 640);
    }

    private static void promise6Holding() {
        TapLoom loom = withSection(0, 127, 127, 127, -127, -127);
        loom.chain(0);
        CHECK.due("held above", loom.run(32767), 32767);
        CHECK.due("held above again", loom.run(32767), 32767);
        for (int i = 0; i < 4; i++) {
            loom.run(-32767);
        }
        CHECK.due("held below", loom.run(-32767), -32767);
        CHECK.due("y1 is held", loom.of(0, Y1), -32767);
        TapLoom down = withSection(1, 127);
        down.chain(0);
        CHECK.due("down is held", down.run(-32767), -32767);
        TapLoom just = withSection(1, -64);
        just.chain(0);
        CHECK.due("the least input", just.run(-32767), 32767);
    }

    private static void promise6Chain() {
        TapLoom loom = new TapLoom();
        CHECK.due("without sections", loom.run(7), 7);
        add(loom, 1, 32);
        add(loom, 1, 64, 64);
        loom.chain(0);
        loom.chain(1);
        CHECK.due("halved and summed", loom.run(9), 4);
        CHECK.due("the next one", loom.run(3), 5);
        loom.chain(1);
        CHECK.due("without the sum", loom.run(100), 50);
        loom.chain(1);
        CHECK.due("its x1 was kept", loom.run(0), 1);
        loom.chain(0);
        loom.chain(0);
        CHECK.due("sum first, then half", loom.run(7), 3);
        CHECK.due("sum first, again", loom.run(0), 3);
    }

    private static void promise7() {
        TapLoom loom = withSection(0, 64, 64, 64, -64, 0);
        loom.chain(0);
        for (int i = 0; i < 3; i++) {
            loom.run(10);
        }
        loom.chain(0);
        CHECK.due("three were kept", loom.rest(), 3);
        CHECK.due("then none", loom.rest(), 0);
        CHECK.due("none told", loom.output(0), 0);
        CHECK.due("y1 of one outside", loom.of(0, Y1), 0);
        CHECK.due("y2 of one outside", loom.of(0, Y2), 0);
        loom.chain(0);
        CHECK.due("x1, x2, y1 and y2 are 0", loom.run(0), 0);
        CHECK.due("the coefficients stay", loom.run(1), 1);
        for (int i = 0; i < 20; i++) {
            loom.run(0);
        }
        CHECK.due("sixteen were kept", loom.rest(), 16);
        CHECK.due("its place stays", loom.of(0, PLACE), 0);
        loom.run(5);
        CHECK.due("one again", loom.output(0), 5);
        CHECK.due("the old ones are gone", loom.output(1), 0);
    }

    private static void promise12() {
        TapLoom loom = withSection(2, 1, 2, 3, 4, 5);
        for (int what = B0; what <= A2; what++) {
            CHECK.due("coefficient " + what, loom.of(0, what), what + 1);
        }
        CHECK.due("way", loom.of(0, WAY), 2);
        CHECK.due("place", loom.of(0, PLACE), TapLoom.NONE);
        CHECK.refusesIndex("of(-1, 0)", () -> loom.of(-1, 0));
        CHECK.refusesIndex("of(1, 0)", () -> loom.of(1, 0));
        CHECK.refusesIndex("of(1, 10)", () -> loom.of(1, 10));
        CHECK.refusesIndex("of(max, 0)", () -> loom.of(Integer.MAX_VALUE, 0));
        CHECK.refusesArgument("of(0, -1)", () -> loom.of(0, -1));
        CHECK.refusesArgument("of(0, 10)", () -> loom.of(0, 10));
    }

    private static void promise12Stable() {
        TapLoom loom = withSection(0);
        int[][] rows = {
            {0, 0, 1}, {0, 63, 1}, {0, 64, 0}, {0, -63, 1}, {0, -64, 0},
            {1, -63, 0}, {-1, -63, 0}, {63, 0, 1}, {-63, 0, 1}, {64, 0, 0}, {-64, 0, 0},
            {126, 63, 1}, {-126, 63, 1}, {127, 63, 0}, {-127, 63, 0}, {0, 127, 0}, {0, -127, 0}};
        for (int[] row : rows) {
            loom.set(0, A1, row[0]);
            loom.set(0, A2, row[1]);
            CHECK.due("stable with " + row[0] + ", " + row[1], loom.of(0, STABLE), row[2]);
        }
    }

    private static void promise13() {
        TapLoom loom = new TapLoom();
        for (int i = 1; i <= 16; i++) {
            CHECK.due("not so many", loom.output(i - 1), 0);
            loom.run(i);
        }
        CHECK.due("the latest", loom.output(0), 16);
        CHECK.due("the sixteenth", loom.output(15), 1);
        loom.run(17);
        CHECK.due("the latest, then", loom.output(0), 17);
        CHECK.due("the sixteenth, then", loom.output(15), 2);
        CHECK.due("the first one is forgotten", loom.output(16), 0);
        CHECK.due("far back", loom.output(Integer.MAX_VALUE), 0);
        CHECK.refusesIndex("output(-1)", () -> loom.output(-1));
        CHECK.refusesIndex("output(min)", () -> loom.output(Integer.MIN_VALUE));
    }
}
