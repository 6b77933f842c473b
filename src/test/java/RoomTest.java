import com.sun.management.ThreadMXBean;
import java.lang.management.ManagementFactory;

/** Every call may be made as often as one object is used within a small room: what is made is counted in bytes. */
public final class RoomTest {
    private static final long MOST_BYTES = 4000000;
    private static final int CALLS = 430;
    private static final Check CHECK = new Check();
    private static final ThreadMXBean BEAN = (ThreadMXBean) ManagementFactory.getThreadMXBean();

    private interface Calls {
        void make(BreathOnLoan x, int i);
    }

    public static void main(String[] args) {
        String longest = "wait 1;".repeat(20) + "share " + "1+".repeat(70) + "1;";
        count("plans", (x, i) -> x.plan(15, 24, i % 6 - 2));
        count("images", (x, i) -> x.image());
        count("backs", (x, i) -> x.back());
        count("hours", (x, i) -> x.later(99));
        count("undos", (x, i) -> x.undo());
        count("coughs", (x, i) -> x.coughs(i, 30, 5, 0));
        count("whose", (x, i) -> x.whose(i));
        count("odds", (x, i) -> x.odds(i, 0));
        count("played", (x, i) -> x.played(0));
        count("texts", (x, i) -> {
            if (i % 17 == 0) {
                x.back();
            } else {
                x.feed(Check.word(longest, 20 * (i % 17 - 1)), Check.word(longest, 20 * (i % 17 - 1) + 4),
                        Check.word(longest, 20 * (i % 17 - 1) + 8), Check.word(longest, 20 * (i % 17 - 1) + 12),
                        Check.word(longest, 20 * (i % 17 - 1) + 16));
                if (i % 17 == 16) {
                    x.end(longest.length());
                    x.text();
                }
            }
        });
        CHECK.finish("RoomTest");
    }

    private static void count(String what, Calls calls) {
        long before = BEAN.getThreadAllocatedBytes(Thread.currentThread().getId());
        BreathOnLoan x = Check.ruledBy("smoke 20-hour;cost lungs*2;begin 0;blow 0 by 0 give 2;wait 9;");
        for (int i = 0; i < 6; i++) {
            x.blower(3 + i, i % 4, 999);
            x.kind(10 + i, 1, 900);
        }
        x.seen(4);
        for (int i = 0; i < CALLS; i++) {
            calls.make(x, i);
        }
        long made = BEAN.getThreadAllocatedBytes(Thread.currentThread().getId()) - before;
        CHECK.yes(what + " made " + made + " bytes, that", made < MOST_BYTES);
    }
}
