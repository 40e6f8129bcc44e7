/** Promise 16: the cycles of a section that goes on without input. */
final class CyclesTest {
    private static final int COUNT = 0, LONGEST = 1, GREATEST = 2, LEAVING = 3;

    private static final Check CHECK = new Check();

    public static void main(String[] args) {
        none();
        still();
        outsideOfTried();
        edge();
        leaving();
        changesNothing();
        refuses();
        CHECK.end();
    }

    private static TapLoom withFeedback(int way, int a1, int a2) {
        TapLoom loom = new TapLoom();
        loom.section(way);
        loom.set(0, 3, a1);
        loom.set(0, 4, a2);
        return loom;
    }

    private static void cyclesAre(TapLoom loom, int r, int count, int longest, int greatest, int leaving) {
        CHECK.due("cycles to " + r, loom.cycles(0, r, COUNT), count);
        CHECK.due("longest to " + r, loom.cycles(0, r, LONGEST), longest);
        CHECK.due("greatest to " + r, loom.cycles(0, r, GREATEST), greatest);
        CHECK.due("leaving to " + r, loom.cycles(0, r, LEAVING), leaving);
    }

    private static void none() {
        for (int way = 0; way <= 2; way++) {
            cyclesAre(withFeedback(way, 0, 0), 12, 0, 0, 0, 0);
        }
    }

    private static void still() {
        // y is y1: every number but 0 is a cycle of one state
        cyclesAre(withFeedback(0, -64, 0), 12, 24, 1, 12, 0);
        cyclesAre(withFeedback(0, -64, 0), 1, 2, 1, 1, 0);
        // y is -y1: pairs
        cyclesAre(withFeedback(0, 64, 0), 5, 5, 2, 5, 0);
        // y is -y2: the states turn by a quarter, four to a cycle
        cyclesAre(withFeedback(1, 0, 64), 3, 12, 4, 3, 0);
        // y is y2: (v, w) and (w, v); alone where both are the same
        cyclesAre(withFeedback(2, 0, -64), 2, 14, 2, 2, 0);
    }

    private static void outsideOfTried() {
        // y is y1 less y2: six states to a cycle, with numbers up to 2 r
        TapLoom loom = withFeedback(0, -64, 64);
        CHECK.due("the greatest is not tried itself", loom.cycles(0, 12, GREATEST), 24);
        CHECK.due("six states", loom.cycles(0, 12, LONGEST), 6);
        CHECK.due("none leaves", loom.cycles(0, 12, LEAVING), 0);
        CHECK.due("told apart by their states", loom.cycles(0, 1, COUNT), 2);
    }

    private static void edge() {
        // one cycle of 1052 states comes to 100 just so
        cyclesAre(withFeedback(2, 127, 64), 1, 3, 1052, 100, 0);
        cyclesAre(withFeedback(2, 127, 64), 6, 38, 1052, 100, 2);
        // of the tried states two come to 100 and back, one to 101, which leaves
        cyclesAre(withFeedback(1, -126, 63), 6, 7, 1, 63, 5);
        // six states: 1, 1, 0, -1, -1, 0
        cyclesAre(withFeedback(0, -127, 64), 1, 1, 6, 1, 0);
        cyclesAre(withFeedback(0, -127, 64), 12, 12, 42, 72, 72);
    }

    private static void leaving() {
        // y is 100 y1 by 64, to the nearest: 1 comes to 2, 3, 5, 8 and further; -1 to -2 as well
        TapLoom loom = withFeedback(2, -100, 0);
        CHECK.due("all but y1 of 0 leave", loom.cycles(0, 4, LEAVING), 9 * 8);
        // towards 0: 1 stays where it is, 2 comes to 3, 4, 6, 9 and further
        TapLoom lazy = withFeedback(0, -100, 0);
        cyclesAre(lazy, 4, 2, 1, 1, 9 * 6);
    }

    private static void changesNothing() {
        TapLoom loom = withFeedback(0, -64, 0);
        loom.chain(0);
        loom.run(1000);
        loom.run(2000);
        int y1 = loom.of(0, 7);
        int y2 = loom.of(0, 8);
        int first = loom.cycles(0, 12, COUNT);
        loom.cycles(0, 3, LEAVING);
        CHECK.due("the same again", loom.cycles(0, 12, COUNT), first);
        CHECK.due("y1 stays", loom.of(0, 7), y1);
        CHECK.due("y2 stays", loom.of(0, 8), y2);
        cyclesAre(loom, 12, first, loom.cycles(0, 12, LONGEST), loom.cycles(0, 12, GREATEST), 0);
        int other = loom.section(0);
        for (int what = COUNT; what <= LEAVING; what++) {
            CHECK.due("one without cycles, asked after it: " + what, loom.cycles(other, 12, what), 0);
        }
    }

    private static void refuses() {
        TapLoom loom = withFeedback(0, 0, 0);
        CHECK.refusesIndex("cycles(-1)", () -> loom.cycles(-1, 1, 0));
        CHECK.refusesIndex("cycles(1)", () -> loom.cycles(1, 1, 0));
        CHECK.refusesIndex("cycles(1), all wrong", () -> loom.cycles(1, 0, 9));
        CHECK.refusesArgument("r 0", () -> loom.cycles(0, 0, 0));
        CHECK.refusesArgument("r 13", () -> loom.cycles(0, 13, 0));
        CHECK.refusesArgument("r max", () -> loom.cycles(0, Integer.MAX_VALUE, 0));
        CHECK.refusesArgument("what -1", () -> loom.cycles(0, 1, -1));
        CHECK.refusesArgument("what 4", () -> loom.cycles(0, 1, 4));
    }
}
