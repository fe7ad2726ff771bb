import java.lang.management.ManagementFactory;

/**
 * All calls of a run live in one room, so a call makes nothing: each of the
 * dearest ones is asked some hundred times of an object of its own, and what the
 * thread made meanwhile stays next to nothing.
 */
public final class RoomTest {
    private static final int CALLS = 150;
    private static final long LEAST_OBJECT = 16;

    public static void main(String[] args) {
        // classes are loaded by the first object; what that makes is not the calls'
        ask(dearest(), 11, 0);
        long measuring = madeByMeasuring();
        for (int which = 0; which < 12; which++) {
            EvenStride x = dearest();
            long before = made();
            for (int k = 0; k < CALLS; k++) {
                ask(x, which, k);
            }
            long more = made() - before - measuring;
            Due.holds("call " + which + " made " + more + " bytes", before < 0 || more < CALLS * LEAST_OBJECT);
        }
        Due.end("RoomTest");
    }

    private static EvenStride dearest() {
        EvenStride x = new EvenStride();
        for (int i = 0; i < 8; i++) {
            x.runner(100 + 3 * i);
        }
        x.tune(0, 5);
        Due.ruled(x, "best 6 of 12;move 3/7;cap 9;over 11;");
        for (int race = 0; race < 10; race++) {
            x.card(race, 0, 90 + race);
            x.card(race, 1, 20 * race);
        }
        x.keep(0);
        x.keep(1);
        return x;
    }

    /** Bytes that this thread has made so far; below 0 where the machine does not tell. */
    private static long made() {
        if (ManagementFactory.getThreadMXBean() instanceof com.sun.management.ThreadMXBean bean
            && bean.isThreadAllocatedMemorySupported()) {
            return bean.getThreadAllocatedBytes(Thread.currentThread().getId());
        }
        return -1;
    }

    private static long madeByMeasuring() {
        made();
        long before = made();
        return made() - before;
    }

    private static long ask(EvenStride x, int which, int k) {
        switch (which) {
            case 0: return x.even(0, 7 << k % 6, -1);
            case 1: return x.odds(0, 255, k % 8);
            case 2: return x.close(1, 255);
            case 3: return x.plan(100, 10, k % 3);
            case 4: return x.good(6, k % 21, 0);
            case 5: return x.beats(k % 100, 3);
            case 6: return x.behind(k % 201, 5, 40);
            case 7: return x.race(k % 3, 255);
            case 8: return x.keep(k % 2);
            case 9: return x.back(k % 2);
            case 10: return x.reading(6, k % 8);
            default: return x.type(0x636170203132333bL, 8) + x.rule() + x.clear();
        }
    }
}
