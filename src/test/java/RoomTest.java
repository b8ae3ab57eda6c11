import com.sun.management.ThreadMXBean;
import java.lang.management.ManagementFactory;

/**
 * All calls of a run live in one room of some 600,000 objects and 7.3 million fields and elements: the dearest calls,
 * 512 of each, must stay far below it, and so must many new objects.
 */
public final class RoomTest {
    private static final int CALLS = 512;
    /** Some 4 bytes are a field or an element at least, so this is a tenth of the room at most. */
    private static final long BYTES = 2_900_000;
    private static int wrong = 0;

    private interface Run {
        void call(MagnetRows x, int i);
    }

    public static void main(String[] args) {
        measure("nothing (the classes come)", RoomTest::everything, Long.MAX_VALUE);
        measure("everything", RoomTest::everything, BYTES);
        measure("sectors", (x, i) -> x.whole(i % 5, i % 2 * 2 - 1), BYTES);
        measure("powerOf", (x, i) -> x.powerOf(4, 4), BYTES);
        measure("rest", (x, i) -> x.rest(4, 1, i % 101 - 50, 0), BYTES);
        measure("ice", (x, i) -> x.ice(0, 6, 8), BYTES);
        measure("unlike", (x, i) -> x.unlike(0, 1, 6), BYTES);
        measure("bracket", (x, i) -> x.bracket(0, 1), BYTES);
        measure("join", (x, i) -> x.join(2, 0, 3, 2), BYTES);
        measure("kept", (x, i) -> x.kept(0), BYTES);
        measure("chain", (x, i) -> x.chain(8, true, 1, 1), BYTES);
        measure("sheet", (x, i) -> x.sheet(0, 2, 60), BYTES);
        measure("new objects, each with a dear call", (x, i) -> new MagnetRows().size(3, 1), BYTES);
        System.exit(wrong == 0 ? 0 : 1);
    }

    private static void everything(MagnetRows x, int i) {
        x.rest(4, i % 2 * 2 - 1, 0, 0);
        x.powerOf(4, 4);
        x.ice(0, 6, 7);
        x.unlike(0, 1, 6);
        x.walls(0, 6);
        x.exchange(0, 1, 0);
        x.bracket(0, 1);
        x.shift(2, 0, 7);
        x.kept(0);
    }

    private static MagnetRows ready() {
        MagnetRows x = new MagnetRows();
        x.chain(8, true, 4, -2);
        x.weights(0, 3, 4, 5);
        x.weights(2, -9, 8, 7);
        for (int i = 0; i < 60; i++) {
            x.add(0, i, 255 - i, 1, 2);
            x.add(1, 255 - i, i, 3, 4);
        }
        return x;
    }

    private static void measure(String what, Run run, long most) {
        MagnetRows x = ready();
        ThreadMXBean bean = (ThreadMXBean) ManagementFactory.getThreadMXBean();
        long thread = Thread.currentThread().getId();
        long before = bean.getThreadAllocatedBytes(thread);
        for (int i = 0; i < CALLS; i++) {
            run.call(x, i);
        }
        long used = bean.getThreadAllocatedBytes(thread) - before;
        System.out.println(what + ": " + used + " bytes");
        if (used > most) {
            wrong++;
            System.out.println("that is more than " + most);
        }
    }
}
