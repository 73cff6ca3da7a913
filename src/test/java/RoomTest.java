import java.lang.management.ManagementFactory;

/** The dearest calls, 512 on one object, make hardly anything, and end soon. */
public final class RoomTest {
    private static final Check check = new Check();
    private static final com.sun.management.ThreadMXBean BEAN =
        (com.sun.management.ThreadMXBean) ManagementFactory.getThreadMXBean();

    public static void main(String[] args) {
        made();
        long before = bytes();
        MiceEngine x = new MiceEngine();
        long fresh = bytes() - before;
        check.about("bytes");
        check.due("a new object takes " + fresh + " bytes", fresh < 150_000, true);
        calls();
        texts();
        check.end();
    }

    private static long bytes() {
        return BEAN.getThreadAllocatedBytes(Thread.currentThread().getId());
    }

    /** The bean's and the classes' own first bytes are not the calls'. */
    private static void made() {
        bytes();
        heavy(0);
        bytes();
    }

    private static MiceEngine heavy(int kind) {
        String trials = "trial 1 gives 1;trial 2 gives 1;trial 3 gives 2;trial 4 gives 1;".repeat(2) + "fuel 300;";
        return Check.told(kind == 0 ? "row w{" + "l:skip;".repeat(11) + "go l;}" + trials
            : "row w{set ka in;" + "l:if ka<9 l;".repeat(5) + "out ka;}" + trials);
    }

    private static void calls() {
        for (int kind = 0; kind < 2; kind++) {
            MiceEngine x = heavy(kind);
            long before = bytes();
            long sum = 0;
            for (int i = 0; i < 24; i++) {
                x.put(0, 0, 0);
                x.take(0, 0);
                sum += x.soonest(0) + x.ways(0, 3) + x.mean(0, true) + x.core(0, 1) + x.life(0, 3, i) + x.pair(0);
                sum += x.bears(0, 3) + x.mends(0) + x.reached(0) + x.worst(0) + x.sought(0, 5, i % 2) + x.idle(0);
                sum += x.see(0, 0, 0) + x.next(0, 2, 1) + x.most(0, 2, 0) + (x.hold(0) ? 1 : 0) + (x.restore(0) ? 1 : 0);
            }
            long made = bytes() - before;
            check.about("calls of kind " + kind + ", " + sum);
            check.due("the calls make " + made + " bytes", made < 2_000, true);
        }
    }

    private static void texts() {
        check.about("texts");
        MiceEngine x = new MiceEngine();
        long before = bytes();
        for (int i = 0; i < 5; i++) {
            for (int j = 0; j < 97; j++) {
                // skip;skip;skip;skip;
                x.feed(0x736b6970, 0x3b736b69, 0x703b736b, 0x69703b73, 0x6b69703b);
            }
            x.read();
        }
        long made = bytes() - before;
        check.due("the texts make " + made + " bytes", made < 100_000, true);
    }
}
