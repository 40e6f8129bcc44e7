import com.sun.management.ThreadMXBean;
import java.lang.management.ManagementFactory;

/** LANGUAGE.md rule 12: what a run makes is kept small, far below the room that all calls live in. */
final class RoomTest {
    private static final int CALLS = 500;
    // 7.3 million fields and elements by 512 calls are 14,000 a call; an element has 4 bytes and more.
    private static final long MOST_BYTES_A_CALL = 256, MOST_BYTES_AN_OBJECT = 32_000;

    private static final Kit KIT = new Kit();
    private static final ThreadMXBean THREADS = (ThreadMXBean) ManagementFactory.getThreadMXBean();

    public static void main(String[] args) {
        object();
        call("set", Looms.busy(), x -> x.set(0, 0, 5));
        call("chain", Looms.busy(), x -> x.chain(1));
        call("arrange", Looms.chainOfPlain(8, 8), TapLoom::arrange);
        call("run", Looms.busyChain(8), x -> x.run(7));
        call("rest", Looms.busy(), TapLoom::rest);
        call("tap", Looms.busy(), x -> x.tap(3, 4));
        call("ask", Looms.busy(), x -> x.ask(3, 4));
        call("design", Looms.busy(), TapLoom::design);
        call("sample", Looms.busy(), x -> x.sample(9));
        for (int what = 0; what <= 9; what++) {
            int asked = what;
            call("of " + what, Looms.busy(), x -> x.of(1, asked));
        }
        call("output", Looms.busy(), x -> x.output(3));
        call("gain", Looms.chainOfPlain(8, 4), x -> x.gain(TapLoom.LOW, true));
        call("meets", Looms.chainOfPlain(8, 4), x -> x.meets(TapLoom.HIGH, 0, 10000) ? 1 : 0);
        call("cycles", Looms.with(2, 64, 0, 0, 127, 64), x -> x.cycles(0, 12, 1));
        call("tapOf", Looms.busy(), x -> x.tapOf(3));
        call("answer", Looms.busy(), x -> x.answer(3));
        call("answerAnew", Looms.busy(), x -> x.answerAnew(3));
        call("sifted", Looms.busy(), x -> x.sifted(0));
        KIT.end();
    }

    private static long made() {
        return THREADS.getThreadAllocatedBytes(Thread.currentThread().getId());
    }

    private static void object() {
        KIT.test("LANGUAGE.md rule 12: a new object with 8 sections is made of little", () -> {
            Looms.sections(8);
            long before = made();
            TapLoom loom = new TapLoom();
            for (int s = 0; s < 8; s++) {
                loom.section(0);
            }
            small("a new object", made() - before, MOST_BYTES_AN_OBJECT);
        });
    }

    private static void call(String name, TapLoom loom, Kit.Call call) {
        KIT.test("LANGUAGE.md rule 12: " + CALLS + " calls of " + name + " make little", () -> {
            // The first call may load classes, which is not what is measured.
            call.on(loom);
            long before = made();
            for (int i = 1; i < CALLS; i++) {
                call.on(loom);
            }
            small(name, made() - before, MOST_BYTES_A_CALL * CALLS);
        });
    }

    private static void small(String what, long bytes, long most) {
        KIT.is(what + " makes " + bytes + " bytes, at most " + most, bytes <= most, true);
    }
}
