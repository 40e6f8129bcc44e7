import java.util.ArrayList;
import java.util.List;

/**
 * All that an object tells, a row for each answer: first what its questions tell, then what only
 * changing calls tell. It takes fewer than 390 of the object's 512 calls.
 */
final class Told {
    private static final int SECTIONS = 8, TAPS = 32, SAMPLES = 64, OUTPUTS = 16;

    private final TapLoom loom;
    private final List<String> rows = new ArrayList<>();
    private int sections = 0;

    private Told(TapLoom loom) {
        this.loom = loom;
    }

    static List<String> everything(TapLoom loom) {
        Told told = new Told(loom);
        told.askSections();
        told.askGains();
        told.askTaps();
        told.changeTaps();
        told.changeSections();
        return told.rows;
    }

    private void row(String what, Kit.Call call) {
        rows.add(what + " is " + answerOf(loom, call));
    }

    private static String answerOf(TapLoom loom, Kit.Call call) {
        try {
            return Long.toString(call.on(loom));
        } catch (RuntimeException e) {
            return e.getClass().getSimpleName();
        }
    }

    private boolean hasSection(int section) {
        return !answerOf(loom, x -> x.of(section, 0)).equals("IndexOutOfBoundsException");
    }

    private void askSections() {
        while (sections < SECTIONS && hasSection(sections)) {
            int s = sections++;
            for (int what = 1; what <= 9; what++) {
                int w = what;
                row("of(" + s + ", " + w + ")", x -> x.of(s, w));
            }
            rows.add("of(" + s + ", 0) is " + loom.of(s, 0));
            for (int what = 0; what <= 3; what++) {
                int w = what;
                row("cycles(" + s + ", 2, " + w + ")", x -> x.cycles(s, 2, w));
            }
        }
        rows.add("sections: " + sections);
        for (int back = 0; back <= OUTPUTS; back++) {
            int b = back;
            row("output(" + b + ")", x -> x.output(b));
        }
    }

    private void askGains() {
        for (int where = 0; where <= 2; where++) {
            int w = where;
            row("gain(" + w + ", false)", x -> x.gain(w, false));
            row("gain(" + w + ", true)", x -> x.gain(w, true));
            row("meets(" + w + ", 0, 1000)", x -> x.meets(w, 0, 1000) ? 1 : 0);
            row("meets(" + w + ", 0, 10000)", x -> x.meets(w, 0, 10000) ? 1 : 0);
        }
    }

    private void askTaps() {
        for (int i = 0; i < TAPS; i++) {
            int n = i;
            row("tapOf(" + n + ")", x -> x.tapOf(n));
            row("answer(" + n + ")", x -> x.answer(n));
        }
        for (int i = 0; i < 4; i++) {
            int n = i;
            row("answerAnew(" + n + ")", x -> x.answerAnew(n));
        }
        for (int back = 0; back <= SAMPLES; back++) {
            int b = back;
            row("sifted(" + b + ")", x -> x.sifted(b));
        }
    }

    /** What was asked is told only when something else is asked, how many samples only by a sample. */
    private void changeTaps() {
        row("sample(1)", x -> x.sample(1));
        for (int i = 0; i < TAPS; i++) {
            int n = i;
            row("ask(" + n + ", 0)", x -> x.ask(n, 0));
        }
    }

    /** The inputs ahead are told only by what comes out next, how many outputs are kept only by rest. */
    private void changeSections() {
        feed(1000, 0, -500);
        for (int section = 0; section < sections; section++) {
            int s = section;
            if (loom.of(s, 6) == TapLoom.NONE) {
                row("chain(" + s + ")", x -> x.chain(s));
            }
        }
        feed(700, 0, -3);
        for (int section = 0; section < sections; section++) {
            int s = section;
            row("then of(" + s + ", 7)", x -> x.of(s, 7));
            row("then of(" + s + ", 8)", x -> x.of(s, 8));
        }
        row("arrange()", TapLoom::arrange);
        row("rest()", TapLoom::rest);
        row("section(0)", x -> x.section(0));
    }

    private void feed(int... inputs) {
        for (int input : inputs) {
            row("run(" + input + ")", x -> x.run(input));
        }
    }
}
