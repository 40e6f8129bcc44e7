/** Counts and prints the answers of a test that are not the ones that are due. */
final class Check {
    interface Call {
        void make();
    }

    interface Asked {
        long tell();
    }

    private static final Class<?> INDEX = IndexOutOfBoundsException.class;
    private static final Class<?> ARGUMENT = IllegalArgumentException.class;
    private static final Class<?> STATE = IllegalStateException.class;

    private int wrong = 0;
    private int checked = 0;

    void due(String what, long got, long want) {
        checked++;
        if (got != want) {
            fail(what + " answered " + got + ", due is " + want);
        }
    }

    void due(String what, boolean got, boolean want) {
        due(what, got ? 1 : 0, want ? 1 : 0);
    }

    void refusesIndex(String what, Call call) {
        refuses(what, INDEX, call);
    }

    void refusesArgument(String what, Call call) {
        refuses(what, ARGUMENT, call);
    }

    void refusesState(String what, Call call) {
        refuses(what, STATE, call);
    }

    private void refuses(String what, Class<?> due, Call call) {
        checked++;
        try {
            call.make();
            fail(what + " threw nothing, due is " + due.getName());
        } catch (RuntimeException e) {
            if (e.getClass() != due) {
                fail(what + " threw " + e + ", due is " + due.getName());
            } else if (!thrownByTapLoom(e)) {
                fail(what + " let the machine or its library throw " + e);
            }
        }
    }

    /** An exception of the library or of the machine has another class, or begins in another file. */
    static boolean thrownByTapLoom(RuntimeException e) {
        boolean named = e.getClass() == INDEX || e.getClass() == ARGUMENT || e.getClass() == STATE;
        StackTraceElement[] trace = e.getStackTrace();
        return named && (trace.length == 0 || trace[0].getClassName().startsWith("TapLoom"));
    }

    void fail(String what) {
        wrong++;
        if (wrong <= 40) {
            System.out.println("  " + what);
        }
    }

    void end() {
        System.out.println("  " + checked + " checks, " + wrong + " wrong");
        if (wrong != 0) {
            System.exit(1);
        }
    }
}
