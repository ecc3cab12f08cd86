import com.sun.management.ThreadMXBean;
import java.lang.management.ManagementFactory;
import java.util.Random;

/** All calls of a run share one room: calls make nothing, a new object little; and no call throws, whatever it is given. */
public final class RoomTest {
    private static final Checks CHECKS = new Checks();
    private static final ThreadMXBean THREADS = (ThreadMXBean) ManagementFactory.getThreadMXBean();

    public static void main(String[] args) {
        callsMakeNothing();
        anyCallsOnAnyObject();
        CHECKS.end();
    }

    private static long made() {
        return THREADS.getThreadAllocatedBytes(Thread.currentThread().getId());
    }

    private static void callsMakeNothing() {
        // The first use makes what belongs to the classes, not to the object.
        long answers = allCalls(new FlatBlocks(70_000, 80_000, 64));
        made();
        long empty = made();
        FlatBlocks x = new FlatBlocks(70_000, 80_000, 64);
        long start = made();
        answers += allCalls(x);
        long end = made();
        CHECKS.due("calls answered", answers > 0, true);
        // Four rows of bytes and two of ints, one for each byte of the text, are most of it: 860,000 bytes.
        CHECKS.due("a new object takes " + (start - empty) + " bytes, below 950,000", start - empty < 950_000, true);
        CHECKS.due("calls take " + (end - start) + " bytes, next to nothing", end - start < 10_000, true);
    }

    private static long allCalls(FlatBlocks x) {
        long answers = 0;
        for (int round = 0; round < 25; round++) {
            for (int i = 0; i < 6; i++) {
                answers += x.feed(round * i) ? 1 : 0;
            }
            answers += x.again(6, 300) + x.pack() + x.take() + x.unpack() + x.bit() + x.out(3) + x.packed(3) + x.count(4);
            answers += x.same() ? 1 : 0;
        }
        x.reset();
        return answers;
    }

    private static void anyCallsOnAnyObject() {
        Random random = new Random(8);
        int[] odd = {Integer.MIN_VALUE, -1, 0, 1, 2, 3, 15, 16, 17, 255, 256, 257, 258, 259, 65_535, 70_000, 70_001, Integer.MAX_VALUE};
        for (int run = 0; run < 300; run++) {
            FlatBlocks x = new FlatBlocks(pick(random, odd), pick(random, odd), pick(random, odd));
            boolean thrown = false;
            try {
                for (int call = 0; call < 512; call++) {
                    anyCall(x, random, odd);
                }
            } catch (RuntimeException e) {
                thrown = true;
                e.printStackTrace(System.out);
            }
            CHECKS.due("run " + run + " throws", thrown, false);
        }
    }

    private static int pick(Random random, int[] odd) {
        return random.nextInt(3) == 0 ? odd[random.nextInt(odd.length)] : random.nextInt(256);
    }

    private static void anyCall(FlatBlocks x, Random random, int[] odd) {
        int a = pick(random, odd);
        int b = pick(random, odd);
        switch (random.nextInt(random.nextInt(20) == 0 ? 13 : 12)) {
            case 0 -> x.again(a, b);
            case 1 -> dueSizes(x.pack(), x.count(1), FlatBlocks.FULL - 100);
            case 2 -> dueAnswer("packed", x.packed(a), a, x.count(1));
            case 3, 4 -> x.load(a);
            case 5 -> dueSizes(x.take(), x.count(2), x.count(2));
            case 6 -> dueUnpacked(x);
            case 7 -> dueAnswer("out", x.out(a), a, x.count(3));
            case 8 -> CHECKS.due("bit() below 0", x.bit() < 0, false);
            case 9 -> CHECKS.due("same() with unlike sizes", x.same() && x.count(0) != x.count(3), false);
            case 10 -> CHECKS.due("count(" + a + ")", x.count(a) < 0, a < 0 || a > 4);
            case 12 -> x.reset();
            default -> x.feed(a);
        }
    }

    private static void dueSizes(int answer, int size, int other) {
        CHECKS.due("an answer of " + answer, answer == size || answer == other, true);
    }

    private static void dueAnswer(String call, int answer, int i, int size) {
        CHECKS.due(call + "(" + i + ")", answer >= 0 && answer <= 255, i >= 0 && i < size);
    }

    private static void dueUnpacked(FlatBlocks x) {
        int why = x.unpack();
        CHECKS.due("unpack()", why >= 0 && why <= FlatBlocks.FULL, true);
        CHECKS.due("bit() of all", x.bit() <= 8 * x.count(2), true);
        CHECKS.due("no text", why == 0 || x.count(3) == 0, true);
    }
}
