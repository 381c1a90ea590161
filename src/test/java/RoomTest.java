import com.sun.management.ThreadMXBean;
import java.lang.management.ManagementFactory;
import java.util.Random;

/** Calls with any numbers in any state answer and end, and no call but the constructor makes objects. */
public final class RoomTest {
    private static final int RUNS = 60;
    private static final int CALLS = 512;
    /** 600,000 objects and 7.3 million elements are the room; a byte or two an object is not counted. */
    private static final long MOST_BYTES_OF_ONE = 60_000;

    public static void main(String[] args) {
        ThreadMXBean threads = (ThreadMXBean) ManagementFactory.getThreadMXBean();
        new StoneRaised();
        long before = threads.getCurrentThreadAllocatedBytes();
        StoneRaised made = new StoneRaised();
        long size = threads.getCurrentThreadAllocatedBytes() - before;
        Check.due("a new object takes more than " + MOST_BYTES_OF_ONE + " bytes: " + size, false, size > MOST_BYTES_OF_ONE);
        Check.due("it is new", 0, made.has(0));
        // The first run loads what the machine needs, which is not the program's own.
        run(new Random(RUNS), threads);
        long spent = 0;
        for (int run = 0; run < RUNS; run++) {
            spent = Math.max(spent, run(new Random(run), threads));
        }
        Check.due("bytes made by the calls of a run", false, spent > 2_000);
        Check.finish();
    }

    private static long run(Random random, ThreadMXBean threads) {
        StoneRaised x = new StoneRaised();
        Towns towns = new Towns(random);
        long spent = 0;
        int calls = 0;
        while (calls < CALLS) {
            if (calls % 128 == 0) {
                Check.town(x, towns.text());
            }
            int which = random.nextInt(32);
            int[] a = {number(random), number(random), number(random)};
            long before = threads.getCurrentThreadAllocatedBytes();
            call(x, which, a[0], a[1], a[2]);
            spent += threads.getCurrentThreadAllocatedBytes() - before;
            calls++;
        }
        return spent;
    }

    private static int number(Random random) {
        return switch (random.nextInt(6)) {
            case 0 -> random.nextInt();
            case 1 -> random.nextBoolean() ? Integer.MAX_VALUE : Integer.MIN_VALUE;
            case 2 -> random.nextInt(70) - 3;
            default -> random.nextInt(9) - 1;
        };
    }

    private static int one(boolean b) {
        return b ? 1 : 0;
    }

    private static int call(StoneRaised x, int which, int a, int b, int c) {
        return switch (which) {
            case 0 -> x.feed(a, b, c, a, b);
            case 1 -> one(x.end(a));
            case 2 -> a < 0 ? x.town() : x.has(b);
            case 3 -> x.fault(a);
            case 4 -> x.has(a);
            case 5 -> x.letter(a, b, c);
            case 6 -> x.home(a, b);
            case 7 -> x.child(a, b);
            case 8 -> x.stone(a, b);
            case 9 -> x.wall(a, b);
            case 10 -> x.at(a, b, c);
            case 11 -> x.later(a, b);
            case 12 -> x.built(a);
            case 13 -> x.down(a);
            case 14 -> x.props(a);
            case 15 -> x.strongest(a, b);
            case 16 -> x.order(a);
            case 17 -> x.reconcile(a, b);
            case 18 -> x.seams(a);
            case 19 -> x.homes(a);
            case 20 -> x.pulling(a);
            case 21 -> x.years(a);
            case 22 -> x.chance(a);
            case 23 -> one(x.go(a, b));
            case 24 -> x.pull(a);
            case 25 -> one(x.peace(a));
            case 26 -> one(x.undo());
            case 27 -> one(x.seed(a));
            case 28 -> x.kept(a, b);
            case 29 -> x.image();
            case 30 -> x.octet(a);
            default -> a < 0 ? one(x.on()) : x.status(a);
        };
    }
}
