import java.util.List;

/**
 * Runs the tests of one part of the document. Each has a title of its own that tells its promise
 * and its sentence; a row is printed for each, and the program ends with exit code 1 if one fails.
 */
final class Kit {
    interface Body {
        void run();
    }

    interface Maker {
        TapLoom make();
    }

    interface Call {
        long on(TapLoom loom);
    }

    interface NumberedCall {
        long on(TapLoom loom, int number);
    }

    static final Class<?> INDEX = IndexOutOfBoundsException.class;
    static final Class<?> ARGUMENT = IllegalArgumentException.class;
    static final Class<?> STATE = IllegalStateException.class;

    // No test needs a tenth of it: a call that does not end is a failure too.
    private static final long MOST_MILLIS = 240_000;
    private static final int MOST_PRINTED = 20;

    private int tests = 0;
    private int failedTests = 0;
    private int wrong = 0;

    Kit() {
        Thread watch = new Thread(Kit::haltWhenLate);
        watch.setDaemon(true);
        watch.start();
    }

    private static void haltWhenLate() {
        try {
            Thread.sleep(MOST_MILLIS);
        } catch (InterruptedException e) {
            return;
        }
        System.out.println("WRONG a test does not end");
        System.out.flush();
        Runtime.getRuntime().halt(1);
    }

    void test(String title, Body body) {
        tests++;
        wrong = 0;
        try {
            body.run();
        } catch (RuntimeException e) {
            fail("threw " + e);
        }
        failedTests += wrong == 0 ? 0 : 1;
        System.out.println((wrong == 0 ? "ok    " : "WRONG ") + title);
    }

    /** A test of one call that is refused, and behind which nothing has changed. */
    void refused(String title, Class<?> due, Maker maker, Call call) {
        test(title, () -> refuses(due, maker, call));
    }

    /** Four such tests: the first number beyond each end of a range, and the farthest. */
    void refusedBeyond(String sentence, Class<?> due, Maker maker, int least, int most, NumberedCall call) {
        String end = " is refused, nothing changes";
        refused(sentence + ": " + (least - 1) + ", the first below," + end, due, maker,
                loom -> call.on(loom, least - 1));
        refused(sentence + ": " + (most + 1) + ", the first above," + end, due, maker,
                loom -> call.on(loom, most + 1));
        refused(sentence + ": the least int" + end, due, maker, loom -> call.on(loom, Integer.MIN_VALUE));
        refused(sentence + ": the greatest int" + end, due, maker, loom -> call.on(loom, Integer.MAX_VALUE));
    }

    void refuses(Class<?> due, Maker maker, Call call) {
        TapLoom asked = maker.make();
        throwsDue(due, asked, call);
        // Refused twice, so that a first refusal that leaves something behind is told by the second.
        throwsDue(due, asked, call);
        same("after the refusal", asked, maker.make());
    }

    void throwsDue(Class<?> due, TapLoom loom, Call call) {
        try {
            fail("answered " + call.on(loom) + ", due is " + due.getName());
        } catch (RuntimeException e) {
            if (e.getClass() != due) {
                fail("threw " + e + ", due is " + due.getName());
            } else if (!thrownByTapLoom(e)) {
                fail("let the machine or its library throw " + e);
            }
        }
    }

    /** A test of a call that answers, and behind which nothing has changed. */
    void asks(String title, Maker maker, Call call) {
        test(title, () -> {
            TapLoom asked = maker.make();
            long first = call.on(asked);
            is("the same question again", call.on(asked), first);
            same("after the question", asked, maker.make());
        });
    }

    /** All that two objects tell must be the same. Both are used up by it. */
    void same(String what, TapLoom one, TapLoom other) {
        List<String> got = Told.everything(one);
        List<String> due = Told.everything(other);
        is(what + ": how many answers", got.size(), due.size());
        for (int i = 0; i < got.size() && i < due.size(); i++) {
            if (!got.get(i).equals(due.get(i))) {
                fail(what + ": " + got.get(i) + ", due is " + due.get(i));
            }
        }
    }

    void is(String what, long got, long due) {
        if (got != due) {
            fail(what + " answered " + got + ", due is " + due);
        }
    }

    void is(String what, boolean got, boolean due) {
        if (got != due) {
            fail(what + " answered " + got + ", due is " + due);
        }
    }

    /** Holds a whole row of answers against those that are due. */
    void are(String what, long[] got, long... due) {
        is(what + ": how many", got.length, due.length);
        for (int i = 0; i < got.length && i < due.length; i++) {
            is(what + ", number " + i, got[i], due[i]);
        }
    }

    void fail(String what) {
        wrong++;
        if (wrong <= MOST_PRINTED) {
            System.out.println("    " + what);
        }
    }

    /** An exception of the machine or of the library has another class, or begins in another file. */
    static boolean thrownByTapLoom(RuntimeException e) {
        boolean named = e.getClass() == INDEX || e.getClass() == ARGUMENT || e.getClass() == STATE;
        StackTraceElement[] trace = e.getStackTrace();
        return named && trace.length > 0 && trace[0].getClassName().startsWith("TapLoom");
    }

    void end() {
        System.out.println(tests + " tests, " + failedTests + " wrong");
        System.out.flush();
        if (failedTests != 0 || tests == 0) {
            System.exit(1);
        }
    }
}
