import java.util.Random;

/**
 * All promises together, and rule 7 of LANGUAGE.md: runs of 512 random calls, right and wrong ones,
 * each answer held against that of the Model, each exception one that the class itself throws.
 */
final class RandomRunsTest {
    private static final int RUNS = 200, CALLS = 512;
    private static final int[] EDGES = {Integer.MIN_VALUE, Integer.MAX_VALUE, -1, 0, 1, 127, -127, 128,
        -128, 96, -96, 97, -97, 31, 32, 63, 64, -64, 32767, -32767, 32768, -32768, 10000, 10001, 7, 8, 12, 13};
    private static final int[] COEFFICIENTS = {64, -64, 0, 63, -63, 127, -127, 32};

    private static final Kit KIT = new Kit();

    private final Random random;
    private final TapLoom loom = new TapLoom();
    private final Model model = new Model();
    private int calls = 0;

    private RandomRunsTest(long seed) {
        random = new Random(seed);
    }

    public static void main(String[] args) {
        for (int run = 0; run < RUNS; run++) {
            int seed = run;
            KIT.test("Promises 1 to 20, LANGUAGE.md rule 7: random run " + run, () -> new RandomRunsTest(seed).go());
        }
        KIT.end();
    }

    private void go() {
        while (calls < CALLS) {
            one();
        }
    }

    /** Mostly a number of the range, at times one just beside it or far off. */
    private int pick(int least, int most) {
        int dice = random.nextInt(60);
        if (dice == 0) {
            return EDGES[random.nextInt(EDGES.length)];
        }
        if (dice < 4) {
            return random.nextBoolean() ? least - random.nextInt(2) : most + random.nextInt(2);
        }
        return least + random.nextInt(most - least + 1);
    }

    private int pickSection() {
        return pick(0, 7) % 12;
    }

    private int pickCoefficient(int which) {
        int dice = random.nextInt(4);
        if (dice == 0) {
            return COEFFICIENTS[random.nextInt(COEFFICIENTS.length)];
        }
        return dice == 1 && which > 2 ? pick(-40, 40) : pick(-127, 127);
    }

    private void one() {
        int kind = random.nextInt(19);
        if (kind < 4) {
            changeSections(kind);
        } else if (kind < 8) {
            changeTaps(kind);
        } else if (kind < 15) {
            askSections(kind);
        } else {
            askTaps(kind);
        }
    }

    private void changeSections(int kind) {
        int section = pickSection();
        int which = pick(0, 4);
        int value = pickCoefficient(which);
        int way = pick(0, 2);
        switch (kind) {
            case 0:
                same("section(" + way + ")", x -> x.section(way), () -> model.section(way));
                break;
            case 1:
                same("set(" + section + ", " + which + ", " + value + ")", x -> x.set(section, which, value),
                        () -> model.set(section, which, value));
                break;
            case 2:
                same("chain(" + section + ")", x -> x.chain(section), () -> model.chain(section));
                break;
            default:
                if (random.nextInt(8) == 0) {
                    same("rest()", TapLoom::rest, model::rest);
                } else {
                    same("arrange()", TapLoom::arrange, model::arrange);
                }
        }
    }

    private void changeTaps(int kind) {
        int x = random.nextBoolean() ? pick(-32767, 32767) : pick(-100, 100);
        int place = pick(0, 31);
        int value = pick(-96, 96);
        switch (kind) {
            case 4:
                same("run(" + x + ")", l -> l.run(x), () -> model.run(x));
                break;
            case 5:
                same("sample(" + value + ")", l -> l.sample(value), () -> model.sample(value));
                break;
            case 6:
                same("tap(" + place + ", " + value + ")", l -> l.tap(place, value), () -> model.tap(place, value));
                break;
            default:
                if (random.nextInt(8) == 0) {
                    same("design()", TapLoom::design, model::design);
                } else {
                    same("ask(" + place + ", " + value + ")", l -> l.ask(place, value), () -> model.ask(place, value));
                }
        }
    }

    private void askSections(int kind) {
        int section = pickSection();
        int what = pick(0, 9);
        int where = pick(0, 2);
        int back = pick(0, 17);
        boolean isDivisor = random.nextBoolean();
        switch (kind) {
            case 8: case 9:
                same("of(" + section + ", " + what + ")", x -> x.of(section, what), () -> model.of(section, what));
                break;
            case 10:
                same("output(" + back + ")", x -> x.output(back), () -> model.output(back));
                break;
            case 11: case 12:
                same("gain(" + where + ", " + isDivisor + ")", x -> x.gain(where, isDivisor),
                        () -> model.gain(where, isDivisor));
                break;
            case 13:
                askMeets(where);
                break;
            default:
                askCycles(section);
        }
    }

    private void askMeets(int where) {
        int low = random.nextBoolean() ? 0 : pick(0, 2000);
        int high = pick(Math.min(Math.max(low, 0), 10000), 10000);
        same("meets(" + where + ", " + low + ", " + high + ")", x -> x.meets(where, low, high) ? 1 : 0,
                () -> model.meets(where, low, high) ? 1 : 0);
    }

    private void askCycles(int section) {
        int r = random.nextInt(4) == 0 ? pick(1, 12) : pick(1, 4);
        int what = pick(0, 3);
        same("cycles(" + section + ", " + r + ", " + what + ")", x -> x.cycles(section, r, what),
                () -> model.cycles(section, r, what));
    }

    private void askTaps(int kind) {
        int place = pick(0, 31);
        int back = pick(0, 66);
        switch (kind) {
            case 15:
                same("tapOf(" + place + ")", x -> x.tapOf(place), () -> model.tapOf(place));
                break;
            case 16:
                same("answer(" + place + ")", x -> x.answer(place), () -> model.answer(place));
                break;
            case 17:
                same("answerAnew(" + place + ")", x -> x.answerAnew(place), () -> model.answer(place));
                break;
            default:
                same("sifted(" + back + ")", x -> x.sifted(back), () -> model.sifted(back));
        }
    }

    private interface Asked {
        long tell();
    }

    private void same(String call, Kit.Call got, Asked want) {
        calls++;
        String due = dueOf(want);
        String answered = answerOf(call, got);
        if (!answered.equals(due)) {
            KIT.fail("call " + calls + ", " + call + " answered " + answered + ", due is " + due);
        }
    }

    private String dueOf(Asked want) {
        try {
            return Long.toString(want.tell());
        } catch (RuntimeException e) {
            return e.getClass().getName();
        }
    }

    private String answerOf(String call, Kit.Call got) {
        try {
            return Long.toString(got.on(loom));
        } catch (RuntimeException e) {
            if (!Kit.thrownByTapLoom(e)) {
                KIT.fail("call " + calls + ", " + call + " let the machine or its library throw " + e);
            }
            return e.getClass().getName();
        }
    }
}
