import com.sun.management.ThreadMXBean;
import java.lang.management.ManagementFactory;
import java.util.Random;

/** What 512 dear calls make must stay small: all calls of a run live in one room. */
public final class RoomTest {
    private static final long MOST_BYTES = 1_500_000;
    private static final String TEXT = "kind a;kind b;kind c;kind d;lock k of a;lock l of b;lock m of c;lock n of d;"
            + "task ta take k take l drop l drop k take k take m drop m drop k;"
            + "task tb take k take l drop l drop k take k take m drop m drop k;"
            + "task tc share k share l drop l drop k share k share m drop m drop k;"
            + "hard td try k try l drop l drop k try k try m drop m drop k;"
            + "task te take k take l take m take n drop n drop m drop l drop k;"
            + "soft tf take k take l take m take n drop n drop m drop l drop k;";

    public static void main(String[] args) {
        ThreadMXBean bean = (ThreadMXBean) ManagementFactory.getThreadMXBean();
        long thread = Thread.currentThread().getId();
        run(1);
        for (int seed = 2; seed < 6; seed++) {
            long ahead = bean.getThreadAllocatedBytes(thread);
            run(seed);
            long made = bean.getThreadAllocatedBytes(thread) - ahead;
            Checks.due("little is made: " + made + " bytes", made < MOST_BYTES, true);
        }
        Checks.finish();
    }

    private static void run(int seed) {
        Random chance = new Random(seed);
        LockWatch x = Checks.watchOf(TEXT);
        for (int i = 0; i < 80; i++) {
            x.swap(chance.nextInt(6), chance.nextInt(11));
            x.runs(chance.nextInt(6));
            x.stuck(1 + chance.nextInt(63), 2);
            x.bestSwap(0);
            x.mends(1);
            x.image(i & 1);
        }
        x.least();
        x.missed();
        x.proves(0);
    }
}
