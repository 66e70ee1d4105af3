import com.sun.management.ThreadMXBean;
import java.lang.management.ManagementFactory;

/** "All calls of one run live in ONE room": 512 of the dearest calls of an object make less than the room has. */
public final class RoomTest {
    private static final int CALLS = 512;
    // 7.3 million fields and elements of four bytes at least
    private static final long ROOM = 7300000L * 4;
    private static final Check CHECK = new Check();

    public static void main(String[] args) {
        ThreadMXBean bean = (ThreadMXBean) ManagementFactory.getThreadMXBean();
        for (int kind = 0; kind < 12; kind++) {
            long before = bean.getCurrentThreadAllocatedBytes();
            run(kind);
            long made = bean.getCurrentThreadAllocatedBytes() - before;
            CHECK.isTrue("calls of kind " + kind + " make " + made + " bytes", made < ROOM);
        }
        CHECK.end();
    }

    private static void run(int kind) {
        HalvedProof x = new HalvedProof();
        Check.feed(x, "suit 999 399;suit 59 399 on 0;" + "witness 1 10 sworn;".repeat(6));
        x.court();
        Check.feed(x, "from 0 1 60 1;from 30 1 1 6;");
        x.laws();
        for (int i = 0; i < CALLS - 30; i++) {
            call(x, kind, i);
        }
    }

    private static int call(HalvedProof x, int kind, int i) {
        switch (kind) {
            case 0: return x.most(1, 30);
            case 1: return x.soonest(1);
            case 2: return x.plan(i % 6);
            case 3: return x.cut(1);
            case 4: return x.turns(1, 0);
            case 5: return x.turns(1, 1);
            case 6: return x.many(0);
            case 7: return i % 2 == 0 ? x.drift(60, 100) : x.begin();
            case 8: return i % 2 == 0 ? x.dusk(400) : x.begin();
            case 9: return i % 2 == 0 ? x.keep(i / 2 % 2) : x.goBack(i / 2 % 2);
            case 10: return i % 63 == 62 ? x.court() : x.feed(7, 0x20202020202020L);
            default: return i % 26 == 25 ? x.laws() : x.feed(7, 0x20202020202020L);
        }
    }
}
