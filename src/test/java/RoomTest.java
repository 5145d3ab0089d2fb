import com.sun.management.ThreadMXBean;
import java.lang.management.ManagementFactory;

/** All calls of a run live in one room: what the dearest calls make, again and again, has to fit in it. */
final class RoomTest {
    private static final int CALLS = 512;
    // 7.3 million fields and elements, were each of them an int alone.
    private static final long MOST_BYTES = 4 * 7300000L;

    private static final Due DUE = new Due("RoomTest");
    private static final ThreadMXBean THREADS = (ThreadMXBean) ManagementFactory.getThreadMXBean();

    public static void main(String[] args) {
        // The first run loads classes.
        bytesOfRun(0);
        for (int kind = 0; kind < 9; kind++) {
            long bytes = bytesOfRun(kind);
            DUE.is("run " + kind + " with " + bytes + " bytes", bytes <= MOST_BYTES ? 1 : 0, 1);
        }
        DUE.end();
    }

    private static long bytesOfRun(int kind) {
        long before = THREADS.getCurrentThreadAllocatedBytes();
        TreadleKernels x = new TreadleKernels();
        x.tie(0, 63);
        x.tie(1, 3);
        x.write(0x6139623961L);
        x.read(0);
        x.write(0x62);
        x.read(1);
        for (int call = 6; call < CALLS; call++) ask(x, kind, call);
        return THREADS.getCurrentThreadAllocatedBytes() - before;
    }

    private static int ask(TreadleKernels x, int kind, int call) {
        switch (kind) {
            case 0: return x.ways(63);
            case 1: return x.orbit(63, call % 12);
            case 2: return x.weave(call % 2, 1000);
            case 3: return x.draft(0, call % 7);
            case 4: return call % 2 == 0 ? x.save(call / 2 % 2) : x.restore(call / 2 % 2);
            case 5: return call % 3 == 0 ? x.undo() : x.repeat(call % 6, 1, 24);
            case 6: return call % 2 == 0 ? x.write(0x6132623263326432L) : call % 4 == 1 ? x.fault() : x.read(call % 6);
            case 7: return call % 2 == 0 ? x.pair(0, 1, call / 2 % 4) : x.comesTo(0, 3, 1000000);
            default: return call % 2 == 0 ? x.bestDraft(0) : x.untilHome(call / 2 % 6);
        }
    }
}
