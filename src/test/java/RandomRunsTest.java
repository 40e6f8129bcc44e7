import java.util.Random;

/** Runs of 512 random calls, right and wrong ones, each answer held against that of the Model. */
final class RandomRunsTest {
    private static final int RUNS = 150, CALLS = 512;
    private static final int[] EDGES = {Integer.MIN_VALUE, Integer.MAX_VALUE, -1, 0, 1, 127, -127, 128,
        -128, 96, -96, 97, -97, 31, 32, 63, 64, -64, 32767, -32767, 32768, -32768, 10000, 10001, 7, 8, 12, 13};

    private final Random random;
    private final TapLoom loom = new TapLoom();
    private final Model model = new Model();
    private final Check check;
    private String call = "";

    private RandomRunsTest(Check check, long seed) {
        this.check = check;
        random = new Random(seed);
    }

    public static void main(String[] args) {
        Check check = new Check();
        for (int run = 0; run < RUNS; run++) {
            new RandomRunsTest(check, run).go("run " + run);
        }
        check.end();
    }

    private void go(String name) {
        for (int i = 0; i < CALLS; i++) {
            one(name + ", call " + i + ": ");
        }
    }

    /** Mostly a number of the range, at times one just beside it or far off. */
    private int pick(int least, int most) {
        int dice = random.nextInt(60);
        if (dice == 0) {
            return EDGES[random.nextInt(EDGES.length)];
        }
        if (dice < 4) {
            return random.nextBoolean() ? least - random.nextInt(2) : most + random.nextInt(2);
        }
        return least + random.nextInt(most - least + 1);
    }

    private int pickSection() {
        return pick(0, 7) % 12;
    }

    private int pickCoefficient(int which) {
        int dice = random.nextInt(4);
        if (dice == 0) {
            return new int[] {64, -64, 0, 63, -63, 127, -127, 32}[random.nextInt(8)];
        }
        return dice == 1 && which > 2 ? pick(-40, 40) : pick(-127, 127);
    }

    private void one(String name) {
        int kind = random.nextInt(19);
        if (kind < 8) {
            change(name, kind);
        } else {
            question(name, kind);
        }
    }

    private void change(String name, int kind) {
        switch (kind) {
            case 0: {
                int way = pick(0, 2);
                same(name + "section(" + way + ")", () -> loom.section(way), () -> model.section(way));
                break;
            }
            case 1: {
                int section = pickSection(), which = pick(0, 4), value = pickCoefficient(which);
                same(name + "set(" + section + ", " + which + ", " + value + ")",
                        () -> loom.set(section, which, value), () -> model.set(section, which, value));
                break;
            }
            case 2: {
                int section = pickSection();
                same(name + "chain(" + section + ")", () -> loom.chain(section), () -> model.chain(section));
                break;
            }
            case 3:
                if (random.nextInt(8) == 0) {
                    same(name + "rest()", loom::rest, model::rest);
                } else {
                    same(name + "arrange()", loom::arrange, model::arrange);
                }
                break;
            case 4: {
                int x = random.nextBoolean() ? pick(-32767, 32767) : pick(-100, 100);
                same(name + "run(" + x + ")", () -> loom.run(x), () -> model.run(x));
                break;
            }
            case 5: {
                int value = pick(-96, 96);
                same(name + "sample(" + value + ")", () -> loom.sample(value), () -> model.sample(value));
                break;
            }
            case 6: {
                int tap = pick(0, 31), value = pick(-96, 96);
                same(name + "tap(" + tap + ", " + value + ")",
                        () -> loom.tap(tap, value), () -> model.tap(tap, value));
                break;
            }
            default: {
                int tone = pick(0, 31), value = pick(-96, 96);
                same(name + "ask(" + tone + ", " + value + ")",
                        () -> loom.ask(tone, value), () -> model.ask(tone, value));
                if (random.nextInt(8) == 0) {
                    same(name + "design()", loom::design, model::design);
                }
            }
        }
    }

    private void question(String name, int kind) {
        int place = pick(0, 31);
        switch (kind) {
            case 8: case 9: {
                int section = pickSection(), what = pick(0, 9);
                same(name + "of(" + section + ", " + what + ")",
                        () -> loom.of(section, what), () -> model.of(section, what));
                break;
            }
            case 10: {
                int back = pick(0, 17);
                same(name + "output(" + back + ")", () -> loom.output(back), () -> model.output(back));
                break;
            }
            case 11: case 12: {
                int where = pick(0, 2);
                same(name + "gain(" + where + ", false)",
                        () -> loom.gain(where, false), () -> model.gain(where, false));
                same(name + "gain(" + where + ", true)",
                        () -> loom.gain(where, true), () -> model.gain(where, true));
                break;
            }
            case 13: {
                int where = pick(0, 2), low = random.nextBoolean() ? 0 : pick(0, 2000), high = pick(Math.min(Math.max(low, 0), 10000), 10000);
                same(name + "meets(" + where + ", " + low + ", " + high + ")",
                        () -> loom.meets(where, low, high) ? 1 : 0, () -> model.meets(where, low, high) ? 1 : 0);
                break;
            }
            case 14: {
                int section = pickSection(), r = random.nextInt(4) == 0 ? pick(1, 12) : pick(1, 4), what = pick(0, 3);
                same(name + "cycles(" + section + ", " + r + ", " + what + ")",
                        () -> loom.cycles(section, r, what), () -> model.cycles(section, r, what));
                break;
            }
            case 15:
                same(name + "tapOf(" + place + ")", () -> loom.tapOf(place), () -> model.tapOf(place));
                break;
            case 16:
                same(name + "answer(" + place + ")", () -> loom.answer(place), () -> model.answer(place));
                break;
            case 17:
                same(name + "answerAnew(" + place + ")", () -> loom.answerAnew(place), () -> model.answer(place));
                break;
            default: {
                int back = pick(0, 66);
                same(name + "sifted(" + back + ")", () -> loom.sifted(back), () -> model.sifted(back));
            }
        }
    }

    private void same(String what, Check.Asked got, Check.Asked want) {
        call = what;
        String due = told(want, false);
        String answered = told(got, true);
        check.due(what + ": " + answered + " for " + due, answered.equals(due), true);
    }

    private String told(Check.Asked asked, boolean ofLoom) {
        try {
            return Long.toString(asked.tell());
        } catch (RuntimeException e) {
            if (ofLoom && !Check.thrownByTapLoom(e)) {
                check.fail(call + " let the machine or its library throw " + e);
            }
            return e.getClass().getName();
        }
    }
}
