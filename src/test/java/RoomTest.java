import java.lang.management.ManagementFactory;

/** All calls of a run live in one room, so a yard is small, and the calls make next to nothing. */
public final class RoomTest {
    private static final com.sun.management.ThreadMXBean THREADS =
            (com.sun.management.ThreadMXBean) ManagementFactory.getThreadMXBean();

    public static void main(String[] args) {
        BendYard[] kept = new BendYard[100];
        long before = bytes();
        for (int i = 0; i < kept.length; i++) {
            kept[i] = new BendYard();
        }
        note("a new yard", (bytes() - before) / kept.length, 60000);
        BendYard x = busyYard();
        before = bytes();
        for (int i = 0; i < 100; i++) {
            x.foresee(200, i % 4);
            x.run(200);
            x.digest();
            x.stuck();
        }
        note("400 calls of ticks", bytes() - before, 1000);
        BendYard y = new BendYard();
        before = bytes();
        for (int i = 0; i < 128; i++) {
            Texts.compile(y, i % 6, "times5{times6{take rib;give rib;}}");
        }
        note("128 plans of 60 actions", bytes() - before, 128 * 4000);
        Check.end("RoomTest");
    }

    private static BendYard busyYard() {
        BendYard x = new BendYard();
        Texts.compile(x, 0, "take rib; cut oak 10; heat 2; bend 9 9 9; fit; give rib;");
        for (int i = 0; i < 6; i++) {
            x.addFrame(i % 5);
            x.addSlip();
            x.addPlank(0, 300, 50);
            x.start(i, 0, i);
        }
        return x;
    }

    private static long bytes() {
        return THREADS.getThreadAllocatedBytes(Thread.currentThread().getId());
    }

    private static void note(String what, long bytes, long most) {
        Check.note(bytes <= most, what + " takes " + bytes + " bytes, more than " + most);
    }
}
