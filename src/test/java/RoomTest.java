import java.lang.management.ManagementFactory;

/** What 512 of the dearest calls make: all rows are made by the constructor, so that calls need next to nothing. */
public final class RoomTest {
    // A long run may hold 7.3 million elements; an object of ours is far below, and calls add nothing but exceptions.
    private static final long MOST_OBJECT = 120_000;
    private static final long MOST_CALLS = 20_000;

    private static final com.sun.management.ThreadMXBean BEAN =
            (com.sun.management.ThreadMXBean) ManagementFactory.getThreadMXBean();
    private static int passed = 0;
    private static int failed = 0;

    private static long made() {
        return BEAN.getThreadAllocatedBytes(Thread.currentThread().getId());
    }

    private static void atMost(String what, long got, long most) {
        if (got <= most) {
            passed++;
        } else {
            failed++;
            System.out.println(what + " made " + got + " bytes");
        }
    }

    public static void main(String[] args) {
        run(new MoonWash());
        long before = made();
        MoonWash m = new MoonWash();
        atMost("the constructor", made() - before, MOST_OBJECT);
        before = made();
        run(m);
        atMost("512 calls", made() - before, MOST_CALLS);
        System.out.println("RoomTest: " + passed + " passed, " + failed + " failed");
        System.exit(failed == 0 ? 0 : 1);
    }

    /** Texts without a line, acts and the dearest questions: 512 calls in all. */
    private static void run(MoonWash m) {
        // 'shin' 'e 1 i' 'f we' 't>1 ' '    ' and one soap.
        m.feed(0x736f6170, 0x20312077, 0x61746572, 0x20312072, 0x6f756768);
        m.feed(0x20312020, 0x20202020, 0x20202020, 0x20202020, 0x20202020);
        m.house();
        for (int i = 0; i < 42; i++) {
            m.hang(i % 8, i % 3 > 0);
            m.nights(60);
            m.wash(i % 8, 0);
            m.image();
            m.least(100, i % 8);
            m.soonest(9, i % 8);
            m.span(40, true);
            m.tide(160, 9);
            m.late(9);
            m.law();
            m.undo();
            m.back();
        }
        m.tries();
        m.stained(true);
        m.trial(40, true);
        m.ahead(0, 40, 9, 2);
        m.watch();
    }
}
