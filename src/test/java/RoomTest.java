import com.sun.management.ThreadMXBean;
import java.lang.management.ManagementFactory;
import java.util.Random;

/**
 * The room of a run: what the constructor and 512 of the dearest calls make,
 * measured in bytes. An object takes 16 at least and an element 4 here, so
 * the bounds stand far inside 600,000 objects and 7.3 million elements.
 * And: no arguments whatever make a call throw.
 */
public final class RoomTest {
    private static final Due DUE = new Due("RoomTest");
    private static final ThreadMXBean THREADS = (ThreadMXBean) ManagementFactory.getThreadMXBean();

    public static void main(String[] args) {
        made(() -> new NineMasters().soonest(0));
        rooms();
        rooms();
        anyArguments();
        DUE.end();
    }

    private static long made(Runnable work) {
        long before = THREADS.getThreadAllocatedBytes(Thread.currentThread().getId());
        work.run();
        return THREADS.getThreadAllocatedBytes(Thread.currentThread().getId()) - before;
    }

    private static void rooms() {
        NineMasters[] kept = new NineMasters[1];
        long object = made(() -> kept[0] = new NineMasters());
        DUE.isTrue("an object makes " + object, object < 12000);
        System.out.println("RoomTest: an object makes " + object + " bytes");
        NineMasters x = kept[0];
        fill(x);
        long asked = made(() -> askAll(x));
        DUE.isTrue("512 calls that ask make " + asked, asked < 4000);
        long told = made(() -> {
            for (int i = 0; i < 170; i++) {
                x.feed('f' << 24 | 'i' << 16 | 'n' << 8 | 'e', ' ' << 24 | '1' << 16 | '+' << 8 | '1', 0x2b312b31);
                x.back();
                x.text();
            }
        });
        DUE.isTrue("170 texts make " + told, told < 170 * 200);
    }

    private static void fill(NineMasters x) {
        x.keep();
        x.deal(9);
        for (int town = 1; town < 6; town++) {
            x.road(town - 1, town, 1);
        }
        x.has(2, 9999);
        x.has(3, 90);
        x.wants(0);
        Fed.text(x, "term k+g*2-a/(1+k)+k+k+k+k+k+k+k", true);
        x.sheet(0, 0, 24);
        x.lay(0, 2, 0);
        x.lay(1, 1, 0);
    }

    private static void askAll(NineMasters x) {
        for (int i = 0; i < 51; i++) {
            x.soonest(i % 3);
            x.never();
            x.together(i);
            x.gone(60);
            x.fresh();
            x.cut(0, 1);
            x.fame(0);
            x.check(30);
            x.lay(2, 2, 0);
            x.copy(0, 0, 0, 1, 23);
        }
    }

    private static void anyArguments() {
        int[] edges = {Integer.MIN_VALUE, Integer.MAX_VALUE, -1, 0, 1, 2, 3, 4, 5, 6, 7, 8, 9, 10, 13, 14, 23, 24, 25, 30, 60, 95, 96, 97,
            NineMasters.NONE};
        Random random = new Random(1);
        for (int run = 0; run < 300; run++) {
            NineMasters x = new NineMasters();
            for (int i = 0; i < 2000; i++) {
                int[] a = new int[5];
                for (int j = 0; j < 5; j++) {
                    a[j] = random.nextInt(3) == 0 ? edges[random.nextInt(edges.length)] : random.nextInt(6);
                }
                any(x, random.nextInt(49), a);
            }
        }
        DUE.isTrue("no call threw", true);
    }

    private static int any(NineMasters x, int call, int[] a) {
        return switch (call) {
            case 0 -> x.master(a[0], a[1], a[2], a[3]);
            case 1 -> x.told(a[0], a[1]);
            case 2 -> x.as(a[0], a[1]);
            case 3 -> x.turns(a[0], a[1]);
            case 4 -> x.set(a[0], a[1], a[2]);
            case 5 -> x.bars(a[0], a[1], a[2]);
            case 6 -> x.road(a[0], a[1], a[2]);
            case 7 -> x.far(a[0], a[1]);
            case 8 -> x.deal(a[0]);
            case 9 -> x.seed(a[0]);
            case 10 -> x.apprentice(a[0]);
            case 11 -> x.has(a[0], a[1]);
            case 12 -> x.knows(a[0], a[1]);
            case 13 -> x.go(a[0]);
            case 14 -> x.learn(a[0]);
            case 15 -> x.use(a[0]);
            case 16 -> x.rests(a[0]);
            case 17 -> x.wants(a[0]);
            case 18 -> x.clear();
            case 19 -> x.made();
            case 20 -> x.soonest(a[0]);
            case 21 -> x.together(a[0]);
            case 22 -> x.never();
            case 23 -> x.last(a[0]);
            case 24 -> x.years(a[0]);
            case 25 -> x.gone(a[0]);
            case 26 -> x.fresh();
            case 27 -> x.cut(a[0], a[1]);
            case 28 -> x.fame(a[0]);
            case 29 -> x.fine();
            case 30 -> x.feed(a[0], a[1], a[2]);
            case 31 -> x.trim(a[0]);
            case 32 -> x.text();
            case 33 -> x.textTold(a[0], a[1]);
            case 34 -> x.why(a[0]);
            case 35 -> x.sheet(a[0], a[1], a[2]);
            case 36 -> x.mark(a[0], a[1], a[2]);
            case 37 -> x.pour(a[0]);
            case 38 -> x.reads(a[0]);
            case 39 -> x.copy(a[0], a[1], a[2], a[3], a[4]);
            case 40 -> x.lay(a[0], a[1], a[2]);
            case 41 -> x.ask(a[0], a[1]);
            case 42 -> x.item(a[0], a[1]);
            case 43 -> x.rest(a[0], a[1]);
            case 44 -> x.tell(a[0]);
            case 45 -> x.check(a[0]);
            case 46 -> x.keep();
            case 47 -> x.back();
            default -> x.count(a[0]);
        };
    }
}
