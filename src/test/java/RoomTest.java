import java.lang.management.ManagementFactory;
import java.nio.charset.StandardCharsets;

/** All rows are made with the object: 512 of its dearest calls make next to nothing more. */
public final class RoomTest {
    private static final long MOST_BYTES_OF_OBJECT = 12_000, MOST_BYTES_OF_CALLS = 12_000;
    private static long answers;

    public static void main(String[] args) {
        com.sun.management.ThreadMXBean meter = (com.sun.management.ThreadMXBean) ManagementFactory.getThreadMXBean();
        long me = Thread.currentThread().getId();
        dearCalls(filled());
        long before = meter.getThreadAllocatedBytes(me);
        ThrownCoins x = filled();
        long ofObject = meter.getThreadAllocatedBytes(me) - before;
        dearCalls(x);
        long ofCalls = meter.getThreadAllocatedBytes(me) - before - ofObject;
        System.out.println("the object: " + ofObject + " bytes, its calls: " + ofCalls + " bytes (" + answers + ")");
        if (ofObject > MOST_BYTES_OF_OBJECT || ofCalls > MOST_BYTES_OF_CALLS) {
            System.out.println("that is more than " + MOST_BYTES_OF_OBJECT + " and " + MOST_BYTES_OF_CALLS);
            System.exit(1);
        }
    }

    private static ThrownCoins filled() {
        ThrownCoins x = new ThrownCoins();
        tell(x, "coins 1 2 4 8 16 32;lies 0 20;lies 1 20;lies 2 20;lies 3 20;law 3;waiting 0 9;greedy 1;cheap 2;cheap 3");
        tell(x, "purse 0 5 9;purse 0 4 9;purse 0 3 9;purse 1 5 9;purse 2 1 9;purse 2 5 9;come 0 0 1 0 2 0");
        return x;
    }

    private static void tell(ThrownCoins x, String text) {
        byte[] bytes = text.getBytes(StandardCharsets.ISO_8859_1);
        for (byte one : bytes) {
            x.write(one, 1);
        }
        answers += x.fault() + x.sunday();
    }

    private static void dearCalls(ThrownCoins x) {
        for (int i = 0; i < 32; i++) {
            answers += x.game(0) + x.choice(1) + x.plan(0, 0) + x.plan(1, 0) + x.league(0, 1) + x.league(0, 2);
            answers += x.mean(0, 5, 0) + x.mean(3, 5, 1) + x.dry() + x.bait(0) + x.bait(3) + x.as(0, 4);
            answers += x.keep(0) + x.visit(-1) + x.back(0) + x.fault();
        }
    }
}
