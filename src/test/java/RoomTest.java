import com.sun.management.ThreadMXBean;
import java.lang.management.ManagementFactory;

/** All calls of a run live in one room: an object's rows are made once, and no call makes more. */
public final class RoomTest {
    private static final int CALLS = 512;
    private static final long CONSTRUCTOR_BYTES = 300_000;
    private static final long CALL_BYTES = 20_000;
    private static final Check CHECK = new Check("room");

    private RoomTest() {
    }

    public static void main(String[] args) {
        dearest();
        long began = made();
        DataShrinker x = new DataShrinker();
        long built = made();
        CHECK.due("bytes made by the constructor", built - began < CONSTRUCTOR_BYTES, true);
        fill(x);
        long ahead = made();
        ask(x);
        CHECK.due("bytes made by all calls", made() - ahead < CALL_BYTES, true);
        CHECK.end();
    }

    private static long made() {
        ThreadMXBean threads = (ThreadMXBean) ManagementFactory.getThreadMXBean();
        return threads.getThreadAllocatedBytes(Thread.currentThread().getId());
    }

    private static void fill(DataShrinker x) {
        for (int k = 0; k < 24; k++) {
            x.item(k, 64, 8, k % 4, k % 2 == 0);
            x.refer(k, k, 23 - k);
        }
        for (int f = 0; f < 12; f++) {
            x.code(f, 9, f % 4, 0, 0);
            x.code(f, 3, (f + 1) % 4, f, f % 4);
            x.code(f, 11, (f + 1) % 4, f, f % 4);
            x.code(f, 4, f + 12, f % 4, (f + 1) % 4);
            x.code(f, 5, (f + 1) % 12, 0, 0);
            x.entry(f, true);
        }
    }

    private static void ask(DataShrinker x) {
        for (int n = 0; n < CALLS; n += 8) {
            x.shrink();
            x.run(n % 12);
            x.runLaid(n % 12);
            x.kept(n % 24, n % 7);
            x.values(n % 12, 0, 0);
            x.octet(n);
            x.shrunk(n % 7);
            x.bytes(0, 0, 1, n);
        }
    }

    /** Code in which each value comes to each place one by one: it must come to an end, and to the right one. */
    private static void dearest() {
        DataShrinker x = new DataShrinker();
        x.item(0, 64, 1, 0, false);
        for (int f = 0; f < 12; f++) {
            for (int i = 0; i < 9; i++) {
                x.code(f, 3, 1, 0, 0);
                x.code(f, 1, 1, 1, 0);
                x.code(f, 4, 0, 0, 1);
                x.code(f, 1, 0, f == 0 ? 1 : 0, 0);
            }
            x.code(f, 5, (f + 1) % 12, 0, 0);
            x.code(f, 6, 3, -38, 0);
        }
        x.entry(0, true);
        CHECK.due("dearest shrink()", x.shrink(), 64);
        CHECK.due("places read", x.kept(0, 1), 64);
        for (int f = 0; f < 12; f++) {
            CHECK.due("values", x.values(f, 36, 0), 256);
            CHECK.due("values", x.values(f, 36, 1), 256);
            CHECK.due("come to", x.function(f, 1), 37);
        }
    }
}
