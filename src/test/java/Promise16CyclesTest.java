/** Promise 16, cycles, with what the Terms tell of states, cycles and those that leave. */
final class Promise16CyclesTest {
    private static final int COUNT = 0, LONGEST = 1, GREATEST = 2, LEAVING = 3;

    private static final Kit KIT = new Kit();

    public static void main(String[] args) {
        withoutInput();
        tried();
        comesBack();
        toldApart();
        stillOne();
        leaves();
        told();
        ranges();
        refused();
        changesNothing();
        KIT.end();
    }

    private static TapLoom feedback(int way, int a1, int a2) {
        return Looms.with(way, 64, 0, 0, a1, a2);
    }

    /** How many, the states of the longest, the greatest number, how many leave. */
    private static void cyclesAre(String title, TapLoom loom, int r, long... due) {
        KIT.test("Promise 16, " + title, () -> KIT.are("cycles to " + r, Looms.cycles(loom, 0, r), due));
    }

    private static void withoutInput() {
        cyclesAre("Terms 'y being its output for the inputs 0': b0, b1 and b2 do not count",
                Looms.with(0, 127, -127, 127, -64, 0), 2, 4, 1, 2, 0);
        KIT.test("Promise 16, Terms 'the inputs 0': x1, x2, y1 and y2 of the section do not count", () -> {
            TapLoom loom = Looms.chained(0, 64, 64, 64, -64, 0);
            Looms.runs(loom, 7, 9, -30);
            KIT.are("cycles", Looms.cycles(loom, 0, 2), 4, 1, 2, 0);
        });
        KIT.test("Promise 16, Terms 'a section goes on': whether it is in the chain does not count", () -> {
            TapLoom loom = feedback(0, -64, 0);
            KIT.are("outside", Looms.cycles(loom, 0, 2), 4, 1, 2, 0);
            loom.chain(0);
            KIT.are("in the chain", Looms.cycles(loom, 0, 2), 4, 1, 2, 0);
        });
        // -60 by 64: 8 gives 7.5, so 1 to 8 stay to the nearest; down, -1 to -16 do
        cyclesAre("Terms 'its output': rounded towards 0, all numbers come to 0", feedback(0, -60, 0), 12, 0, 0, 0, 0);
        cyclesAre("Terms 'its output': rounded down, those below 0 stay", feedback(1, -60, 0), 12, 12, 1, 12, 0);
        cyclesAre("Terms 'its output': rounded to the nearest, of two the greater, -7 to 8 stay",
                feedback(2, -60, 0), 12, 15, 1, 8, 0);
        cyclesAre("Terms 'to the state y, y1': y is -y2, so the states turn", feedback(0, 0, 64), 1, 2, 4, 1, 0);
        KIT.test("Promise 16, 'section: its number': each of 8 its own", () -> {
            TapLoom loom = new TapLoom();
            for (int s = 0; s < 8; s++) {
                Looms.add(loom, 0, 64, 0, 0, s % 2 == 0 ? -64 : 64, 0);
            }
            for (int s = 0; s < 8; s++) {
                KIT.is("cycles of " + s, loom.cycles(s, 3, COUNT), s % 2 == 0 ? 6 : 3);
            }
        });
    }

    private static void tried() {
        // y is y1: each number but 0 stays where it is
        for (int r : new int[] {1, 2, 11, 12}) {
            cyclesAre("Terms 'All states of which both numbers are -r to r are tried': y1, with r of " + r,
                    feedback(0, -64, 0), r, 2 * r, 1, r, 0);
        }
        // y is y2: (v, w) and (w, v) are a cycle of two, (v, v) is one of one
        for (int r : new int[] {1, 2, 12}) {
            int side = 2 * r + 1;
            cyclesAre("Terms 'All states of which both numbers are -r to r are tried': y1 and y2, with r of " + r,
                    feedback(2, 0, -64), r, (side * side - side) / 2 + 2 * r, 2, r, 0);
        }
        cyclesAre("Terms 'All states ... are tried': a cycle may have states beyond r, six with 2 r in them",
                feedback(0, -64, 64), 12, 156, 6, 24, 0);
        cyclesAre("Terms 'All states ... are tried': a cycle beyond r counts that a tried state comes to",
                feedback(0, -118, 54), 12, 174, 1, 100, 0);
    }

    private static void comesBack() {
        // down, half of y1: -1 stays, all below 0 come to it, all others come to 0
        cyclesAre("Terms 'a cycle that is made of those states that come back': not of those on the way to it",
                feedback(1, -32, 0), 12, 1, 1, 1, 0);
        // towards 0, -y1: (v, w) comes to (-v, v) and that to (v, -v), w does not come back
        cyclesAre("Terms 'those states that come back': y2 is left behind", feedback(0, 64, 0), 12, 12, 2, 12, 0);
        cyclesAre("Terms 'those states that come back': in a cycle of 61, and others", feedback(1, 60, 64), 5,
                10, 61, 10, 0);
        cyclesAre("Terms 'those states that come back': in a cycle of 1052, up to 100", feedback(2, 127, 64), 1,
                3, 1052, 100, 0);
    }

    private static void toldApart() {
        cyclesAre("Terms 'Cycles are told apart by their states': one that all come to is one",
                feedback(1, -32, 0), 3, 1, 1, 1, 0);
        cyclesAre("Terms 'Cycles are told apart by their states': a turned state is of the same cycle",
                feedback(0, 0, -64), 1, 5, 2, 1, 0);
        cyclesAre("Terms 'Cycles are told apart by their states': v and -v are two, if each stays",
                feedback(0, -64, 0), 1, 2, 1, 1, 0);
        cyclesAre("Terms 'Cycles are told apart by their states': v and -v are one, if they change",
                feedback(0, 64, 0), 1, 1, 2, 1, 0);
        cyclesAre("Terms 'Cycles are told apart by their states': two of six states each",
                feedback(0, -64, 64), 1, 2, 6, 2, 0);
    }

    private static void stillOne() {
        for (int way = 0; way <= 2; way++) {
            cyclesAre("Terms 'that of 0 and 0 alone does not count': all come to it, way " + way,
                    feedback(way, 0, 0), 12, 0, 0, 0, 0);
        }
        cyclesAre("Terms 'that of 0 and 0 alone does not count': one with other states counts, though 0 is in them",
                feedback(0, 0, 64), 1, 2, 4, 1, 0);
        KIT.test("Promise 16, '0 for 1 and 2 without cycles': also after one that has some", () -> {
            TapLoom loom = feedback(0, -64, 0);
            int other = loom.section(0);
            KIT.are("with", Looms.cycles(loom, 0, 12), 24, 1, 12, 0);
            KIT.are("without", Looms.cycles(loom, other, 12), 0, 0, 0, 0);
            KIT.are("with, again", Looms.cycles(loom, 0, 12), 24, 1, 12, 0);
        });
        KIT.test("Promise 16, '0 for 1 and 2 without cycles': though states leave", () -> {
            // 127 by 64 to the nearest: 1 gives 2, and so on, -1 gives -2
            TapLoom loom = feedback(2, -127, 0);
            KIT.are("cycles", Looms.cycles(loom, 0, 12), 0, 0, 0, 24 * 25);
        });
    }

    private static void leaves() {
        // 12 after -12: 32 48 61 71 79 85 90 94 97 99 100, and 100 stays
        cyclesAre("Terms 'a number above 100': 100 itself does not leave", feedback(0, -118, 54), 12, 174, 1, 100, 0);
        // 12 after -8: 29 43 55 65 73 80 86 91 95 98 100 101, where it would stay
        cyclesAre("Terms 'a number above 100': 101 leaves", feedback(0, -120, 56), 12, 184, 1, 100, 22);
        // the same with other signs from number to number
        cyclesAre("Terms 'above 100, either way': -100 does not leave", feedback(0, 118, 54), 12, 87, 2, 100, 0);
        cyclesAre("Terms 'above 100, either way': -101 leaves", feedback(0, 120, 56), 12, 92, 2, 100, 22);
        // down, 1.98 y1: 1 stays, 0 stays, all others leave, so only those below 0 do at r of 1
        cyclesAre("Terms 'above 100, either way': those below 0 leave", feedback(1, -127, 0), 1, 1, 1, 1, 3);
        cyclesAre("Terms 'leaves: it comes to no cycle': what would come back from beyond 100 is none",
                feedback(0, -127, 64), 12, 12, 42, 72, 72);
        // y is near 2 y2, towards 0, so that 1 stays and 2 does not
        cyclesAre("Terms 'A state that comes to one with a number above 100': by y2 alone too",
                feedback(0, 0, -127), 3, 5, 2, 1, 49 - 9);
        KIT.test("Promise 16, '3 how many of the tried states leave': all but that of 0 and 0", () ->
                KIT.is("leaving", feedback(2, -127, -127).cycles(0, 1, LEAVING), 8));
    }

    private static void told() {
        cyclesAre("'0 how many there are, 1 how many states the longest one has', the longest of several",
                feedback(1, 60, 64), 5, 10, 61, 10, 0);
        cyclesAre("'2 the greatest number in one, either way', below 0", feedback(1, -32, 0), 12, 1, 1, 1, 0);
        cyclesAre("'2 the greatest number in one, either way', the greatest of all, not of the longest",
                Looms.with(0, 64, 0, 0, 0, -64), 12, 324, 2, 12, 0);
        cyclesAre("'3 how many of the tried states leave', each of them for itself", feedback(0, -96, 0), 4,
                2, 1, 1, 9 * 6);
        KIT.test("Promise 16, 'through all states to r': one r after another, the numbers are those of each", () -> {
            TapLoom loom = feedback(0, -64, 0);
            for (int r = 12; r >= 1; r--) {
                KIT.are("cycles to " + r, Looms.cycles(loom, 0, r), 2 * r, 1, r, 0);
            }
        });
        KIT.test("Promise 16, Terms 'A section changes with its numbers': the cycles are those of now", () -> {
            TapLoom loom = feedback(0, -64, 0);
            KIT.are("first", Looms.cycles(loom, 0, 3), 6, 1, 3, 0);
            loom.set(0, Looms.A1, 64);
            KIT.are("then", Looms.cycles(loom, 0, 3), 3, 2, 3, 0);
            loom.set(0, Looms.A1, 0);
            KIT.are("at last", Looms.cycles(loom, 0, 3), 0, 0, 0, 0);
        });
    }

    private static void ranges() {
        cyclesAre("'r: 1 to 12': 1 is taken", feedback(0, 64, 0), 1, 1, 2, 1, 0);
        cyclesAre("'r: 1 to 12': 12 is taken", feedback(0, 64, 0), 12, 12, 2, 12, 0);
        KIT.test("Promise 16, 'what: 0 to 3': 0, the least, and 3, the greatest, are taken", () -> {
            TapLoom loom = feedback(0, -96, 0);
            KIT.is("0", loom.cycles(0, 4, 0), 2);
            KIT.is("3", loom.cycles(0, 4, 3), 54);
        });
    }

    private static void refused() {
        KIT.refusedBeyond("Promise 16, 'IndexOutOfBoundsException if there is no such section', of 3",
                Kit.INDEX, Looms::busy, 0, 2, (loom, section) -> loom.cycles(section, 1, 0));
        KIT.refusedBeyond("Promise 16, 'IndexOutOfBoundsException if there is no such section', of 8",
                Kit.INDEX, Looms::busyFull, 0, 7, (loom, section) -> loom.cycles(section, 12, 3));
        KIT.refusedBeyond("Promise 16, 'IllegalArgumentException if r is out of range', 'r: 1 to 12'",
                Kit.ARGUMENT, Looms::busy, 1, 12, (loom, r) -> loom.cycles(0, r, 0));
        KIT.refusedBeyond("Promise 16, 'IllegalArgumentException if what is out of range', 'what: 0 to 3'",
                Kit.ARGUMENT, Looms::busy, 0, 3, (loom, what) -> loom.cycles(0, 1, what));
        KIT.refused("Promise 16, with Terms 'the one that is named first': no section, and r of 13",
                Kit.INDEX, Looms::busy, loom -> loom.cycles(3, 13, 0));
        KIT.refused("Promise 16, with Terms 'the one that is named first': no section, and what of 4",
                Kit.INDEX, Looms::busy, loom -> loom.cycles(-1, 1, 4));
        KIT.refused("Promise 16, with Terms 'the one that is named first': nothing in its range",
                Kit.INDEX, Looms::busyFull, loom -> loom.cycles(8, 0, -1));
        KIT.refused("Promise 16, 'if r or what is out of range': both of them",
                Kit.ARGUMENT, Looms::busy, loom -> loom.cycles(0, 0, 4));
    }

    private static void changesNothing() {
        for (int what = COUNT; what <= LEAVING; what++) {
            int asked = what;
            KIT.asks("Promise 16, with Terms 'Questions change nothing': cycles(1, 12, " + what + ")", Looms::busy,
                    loom -> loom.cycles(1, 12, asked));
        }
        KIT.test("Promise 16, with Terms 'Questions change nothing': the longest and the greatest stay", () -> {
            TapLoom loom = feedback(0, -64, 64);
            for (int i = 0; i < 3; i++) {
                KIT.is("the longest", loom.cycles(0, 12, LONGEST), 6);
                KIT.is("the greatest", loom.cycles(0, 12, GREATEST), 24);
            }
        });
    }
}
