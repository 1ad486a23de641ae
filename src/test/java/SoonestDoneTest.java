import java.util.ArrayList;
import java.util.List;
import java.util.Random;
import java.util.function.Consumer;

/**
 * Promise 22 without a model: whatever soonest tells is found again by going
 * and learning. On drawn guilds all rows of up to four MASTERS are walked by
 * go and learn, each on a new object, and the best that could make the chair
 * must be what soonest told.
 */
public final class SoonestDoneTest {
    private static final Due DUE = new Due("SoonestDoneTest");
    private static final int TOWNS = 6;
    private static final int LEARNINGS = 4;

    private final Random random;
    private final List<Consumer<NineMasters>> opening = new ArrayList<>();
    private final int[][] roads = new int[TOWNS][TOWNS];
    private final int masters;
    private int[] best;

    private SoonestDoneTest(long seed) {
        random = new Random(seed);
        masters = 2 + random.nextInt(4);
    }

    public static void main(String[] args) {
        int guilds = args.length > 0 ? Integer.parseInt(args[0]) : 3000;
        int[] learnt = new int[3];
        for (int seed = 0; seed < guilds && !DUE.failed(); seed++) {
            SoonestDoneTest test = new SoonestDoneTest(seed);
            test.found();
            test.study();
            test.walk(new int[0]);
            test.compare(seed);
            learnt[test.best == null ? 0 : test.best[0] == 0 ? 1 : 2]++;
        }
        DUE.isTrue("ways of all sorts: " + learnt[0] + " none, " + learnt[1] + " now, " + learnt[2] + " by learning",
                learnt[0] > guilds / 20 && learnt[1] > guilds / 100 && learnt[2] > guilds / 4);
        DUE.end();
    }

    private void found() {
        int towns = 1 + random.nextInt(4);
        int gestures = 3 + random.nextInt(3);
        for (int m = 0; m < masters; m++) {
            int number = m;
            int kind = random.nextInt(6);
            int town = random.nextInt(towns);
            int gesture = random.nextInt(gestures);
            int fee = random.nextInt(4) * 10;
            int one = random.nextInt(gestures);
            int other = random.nextInt(gestures);
            boolean dead = random.nextInt(12) == 0;
            opening.add(x -> x.master(kind, town, gesture, fee));
            opening.add(x -> x.bars(number, one, other));
            opening.add(x -> x.set(number, 6, dead ? 1 : 0));
        }
        for (int i = 1; i < towns + 2 && i < TOWNS; i++) {
            int from = random.nextInt(i);
            int to = i;
            int days = 1 + random.nextInt(4);
            roads[from][to] = days;
            roads[to][from] = days;
            opening.add(x -> x.road(from, to, days));
        }
    }

    /** What is learnt, rested and lowered ahead of the question; a row of calls whatever they answer. */
    private void study() {
        for (int i = random.nextInt(6); i > 0; i--) {
            int m = random.nextInt(masters);
            opening.add(x -> x.go(x.told(m, 1)));
            opening.add(x -> x.learn(m));
        }
        int rest = random.nextInt(8);
        int forgets = random.nextInt(4) == 0 ? 0 : 1 + random.nextInt(30);
        int coins = random.nextInt(100);
        opening.add(x -> x.rests(rest));
        opening.add(x -> x.has(3, forgets));
        opening.add(x -> x.has(2, coins));
        for (int i = random.nextInt(3); i >= 0; i--) {
            int m = random.nextInt(masters);
            opening.add(x -> x.wants(x.told(m, 2)));
        }
    }

    private NineMasters opened() {
        NineMasters x = new NineMasters();
        for (Consumer<NineMasters> call : opening) {
            call.accept(x);
        }
        return x;
    }

    /** Walks the row from the beginning, and the rows that go on from it. */
    private void walk(int[] row) {
        NineMasters x = opened();
        int day = x.count(2);
        int coins = x.apprentice(2);
        for (int m : row) {
            if (!travels(x, x.told(m, 1)) || x.learn(m) == NineMasters.NO) {
                return;
            }
        }
        if (x.count(5) == 1) {
            offer(x.count(2) - day, coins - x.apprentice(2), row.length == 0 ? NineMasters.NONE : row[0]);
        }
        for (int m = 0; m < masters && row.length < LEARNINGS; m++) {
            int[] longer = java.util.Arrays.copyOf(row, row.length + 1);
            longer[row.length] = m;
            walk(longer);
        }
    }

    /** By go alone, from town to town, each nearer by as much as its road is long. */
    private boolean travels(NineMasters x, int town) {
        while (x.apprentice(0) != town) {
            int next = nextTo(x, x.apprentice(0), town);
            if (next < 0) {
                return false;
            }
            x.go(next);
        }
        return true;
    }

    private int nextTo(NineMasters x, int at, int town) {
        for (int next = 0; next < TOWNS; next++) {
            int road = roads[at][next];
            if (road > 0 && x.far(next, town) >= 0 && road + x.far(next, town) == x.far(at, town)) {
                return next;
            }
        }
        return -1;
    }

    private void offer(int days, int coins, int first) {
        int[] found = {days, coins, first};
        if (best == null || java.util.Arrays.compare(found, best) < 0) {
            best = found;
        }
    }

    private void compare(int seed) {
        NineMasters x = opened();
        for (int what = 0; what < 3; what++) {
            DUE.is("guild " + seed + ": soonest(" + what + ")", x.soonest(what), best == null ? NineMasters.NONE : best[what]);
        }
    }
}
