import java.lang.management.ManagementFactory;

/** All calls of a run live in one room: the rows are made by the constructor, and used again. */
public final class RoomTest {
    public static void main(String[] args) {
        SpillslotWorks warm = full();
        askAll(warm, 40);
        SpillslotWorks x = full();
        long before = allocated();
        askAll(x, 512);
        long made = allocated() - before;
        Due.isTrue("512 rounds of the dearest calls make nothing: " + made, made < 20_000);
        before = allocated();
        new SpillslotWorks();
        made = allocated() - before;
        Due.isTrue("an object is small: " + made, made < 120_000);
        Due.end();
    }

    private static long allocated() {
        return ((com.sun.management.ThreadMXBean) ManagementFactory.getThreadMXBean())
                .getThreadAllocatedBytes(Thread.currentThread().getId());
    }

    /** 80 NODES, of which 24 are STATEMENTS. */
    private static SpillslotWorks full() {
        SpillslotWorks x = new SpillslotWorks();
        x.machine(5, 0, 15, true, true);
        x.out(255);
        for (int k = 0; k < 8; k++) {
            int a = Trees.use(x, k);
            int b = Trees.use(x, (k + 3) % 8);
            int c = Trees.num(x, 50 + k);
            int product = Trees.mul(x, a, b);
            x.statement(k / 2, k, Trees.add(x, c, product));
        }
        for (int k = 0; k < 10; k++) {
            int a = Trees.use(x, k % 8);
            int b = Trees.use(x, (k + 1) % 8);
            x.statement(k % 4, (k + 2) % 8, Trees.call(x, a, b));
        }
        for (int k = 0; k < 6; k++) {
            x.statement(3, k, Trees.use(x, 7 - k));
        }
        for (int block = 0; block < 4; block++) {
            x.times(block, 9);
        }
        return x;
    }

    private static long askAll(SpillslotWorks x, int rounds) {
        long sum = 0;
        for (int k = 0; k < rounds; k++) {
            x.latency(2, 1 + k % 9);
            sum += x.digest() + x.meant(0) + x.unordered() + x.enough();
            sum += x.with(6, 0, false, 3 + k % 13) + x.cyclesWith(3, 1 + k % 9);
        }
        return sum;
    }
}
