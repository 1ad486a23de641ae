import java.util.Random;

/** Promise 22 on drawn guilds in which much is known, forgotten, barred and unlearnt, beside Plain that tries all ways. */
public final class SoonestTest {
    private static final Due DUE = new Due("SoonestTest");

    private final Random random;
    private final NineMasters x = new NineMasters();
    private final Plain plain = new Plain();
    private final StringBuilder story = new StringBuilder();

    private SoonestTest(long seed) {
        random = new Random(seed);
    }

    public static void main(String[] args) {
        int guilds = args.length > 0 ? Integer.parseInt(args[0]) : 3000;
        int[] found = new int[3];
        for (int seed = 0; seed < guilds && !DUE.failed(); seed++) {
            SoonestTest test = new SoonestTest(seed);
            test.found();
            test.study();
            found[test.ask()]++;
        }
        DUE.isTrue("ways were found at all: " + found[0] + " none, " + found[1] + " now, " + found[2] + " by learning",
                found[0] > guilds / 20 && found[1] > guilds / 100 && found[2] > guilds / 4);
        DUE.end();
    }

    private void call(int got, String name, int... a) {
        story.append(name).append(java.util.Arrays.toString(a)).append(" = ").append(got).append('\n');
        DUE.is(name + java.util.Arrays.toString(a), got, plain.answer(name, a));
        if (DUE.failed()) {
            System.out.println(story);
            DUE.end();
        }
    }

    private void found() {
        int towns = 1 + random.nextInt(4);
        int gestures = 3 + random.nextInt(4);
        int many = 4 + random.nextInt(5);
        for (int m = 0; m < many; m++) {
            int kind = random.nextInt(3) == 0 ? 4 + random.nextInt(2) : random.nextInt(6);
            int town = random.nextInt(towns);
            int gesture = random.nextInt(gestures);
            int fee = random.nextInt(30);
            call(x.master(kind, town, gesture, fee), "master", kind, town, gesture, fee);
            int one = random.nextInt(gestures);
            int other = random.nextInt(gestures);
            call(x.bars(m, one, other), "bars", m, one, other);
            if (random.nextInt(12) == 0) {
                call(x.set(m, 6, 1), "set", m, 6, 1);
            }
        }
        for (int i = 1; i < towns; i++) {
            int from = random.nextInt(i);
            int days = 1 + random.nextInt(4);
            call(x.road(from, i, days), "road", from, i, days);
        }
        int coins = random.nextInt(200);
        call(x.has(2, coins), "has", 2, coins);
    }

    private void study() {
        int last = random.nextInt(12);
        for (int i = 0; i < last; i++) {
            int m = random.nextInt(9);
            int town = x.told(m, 1);
            if (town >= 0 && town != x.apprentice(0)) {
                call(x.go(town), "go", town);
            }
            call(x.learn(m), "learn", m);
        }
        int forgets = random.nextInt(4) == 0 ? 0 : 1 + random.nextInt(30);
        call(x.has(3, forgets), "has", 3, forgets);
        int coins = random.nextInt(120);
        call(x.has(2, coins), "has", 2, coins);
        for (int i = random.nextInt(4); i >= 0; i--) {
            int gesture = random.nextInt(9) == 0 ? random.nextInt(7) : x.told(random.nextInt(x.count(0)), 2);
            call(x.wants(gesture), "wants", gesture);
        }
    }

    /** 0: there was no way, 1: it can now, 2: by learning. */
    private int ask() {
        for (int what = 0; what < 3; what++) {
            call(x.soonest(what), "soonest", what);
        }
        return x.soonest(0) == NineMasters.NONE ? 0 : x.soonest(0) == 0 ? 1 : 2;
    }
}
