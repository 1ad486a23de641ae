import java.util.function.Consumer;

/** The bounds of images, of the years told and of promises 46 to 50, sentence by sentence. */
public final class BoundsOfRowsTest {
    private static final int BAD = Bounds.BAD;
    private static final int NO = Bounds.NO;
    private static final int FULL = Bounds.FULL;
    private static final int MIN = Bounds.MIN;
    private static final int MAX = Bounds.MAX;
    private static final int WAITING = 7;
    private static final int YOUNG = 40;
    private static final Bounds B = new Bounds("BoundsOfRowsTest");

    public static void main(String[] args) {
        images();
        yearsTold();
        promises46And47();
        promises48To50();
        B.end();
    }

    private static void images() {
        B.sentence("AN IMAGE keeps all but SHEETS, SLOTS, numbers that wait, THE TAPE", () -> {
            Played p = new Played().then("keep").then("sheet", 3, 0, 24).then("lay", 4, 3, 7).then("tell", 5).then("feed", 0, 0, 0);
            p.then("master", 0, 0, 0, 0).then("road", 0, 5, 9).then("learn", 0).then("wants", 0).then("has", 2, 7).then("has", 3, 7);
            B.is(0, p, "back");
            B.is(0, p, "reads", 3);
            B.is(1, p, "rest", 4, 6);
            B.is(1, p, "count", WAITING);
            B.is(12, p, "count", 8);
            int[] counts = {0, 0, 0, 0, 0, 1, 0};
            for (int what = 0; what < counts.length; what++) {
                B.is(counts[what], p, "count", what);
            }
            B.is(100, p, "apprentice", 2);
            B.is(0, p, "apprentice", 3);
            B.is(Bounds.NONE, p, "far", 0, 5);
            everythingIsKept();
            fromAndRestAreKept();
            chairIsKept();
        });
        B.sentence("all can become as it is (again and again)", () -> {
            Played p = new Played().then("wants", 3).then("keep");
            for (int i = 0; i < 3; i++) {
                B.is(2, p, "wants", 4);
                B.is(0, p, "back");
                B.is(1, p, "count", 4);
            }
        });
    }

    /** One that was kept, changed and brought back is like one that was kept alone. */
    private static void everythingIsKept() {
        for (int part = 0; part < Seen.PARTS; part++) {
            Played twin = Rich.made().then("keep").then("trim", 0);
            Played changed = Rich.made().then("keep").then("text");
            changed.then("seed", 5).then("master", 5, 5, 9, 9).then("turns", 0, 5).then("set", 1, 4, 1).then("set", 2, 5, 1);
            changed.then("set", 3, 6, 1).then("bars", 4, 8, 9).then("road", 4, 5, 9).then("road", 0, 1, 0).then("has", 2, 1);
            changed.then("use", 0).then("learn", 1).then("go", 2).then("has", 3, 1).then("rests", 3).then("clear").then("wants", 8);
            changed.then("years", 60).then("back");
            String differs = new Seen(changed, part).differsFrom(new Seen(twin, part));
            B.holds("all is as the image: " + differs, differs == null);
        }
    }

    private static void fromAndRestAreKept() {
        Played p = new Played().master(5, 9).master(5, 9).then("learn", 0).then("rests", 4).then("keep");
        p.then("has", 3, 1).then("rests", 1).then("learn", 1);
        B.is(1, p, "knows", 9, 0);
        B.is(0, p, "knows", 9, 1);
        p.call("back");
        B.is(0, p, "knows", 9, 0);
        B.is(4, p, "knows", 9, 1);
    }

    /** The order of all six: REST tells which was used last. */
    private static void chairIsKept() {
        Played p = new Played().master(5, 0).master(5, 1).then("learn", 0).then("learn", 1).times(5, "wants", 0).then("wants", 1);
        p.then("keep").then("clear").times(5, "wants", 1).then("wants", 0).then("back");
        B.is(8, p, "made");
        B.is(1, p, "knows", 1, 1);
        B.is(2, p, "knows", 0, 1);
    }

    private static void yearsTold() {
        B.sentence("THE YEARS TOLD: of n YEARS of the guild, one behind the other, by THE IMAGE: how many MASTERS are DEAD; AGES of all, together, behind each.", () -> {
            B.is(0, tells(young(0), 0, 0), "check", 1);
            B.is(0, tells(young(1), 0, 41, 0, 42), "check", 2);
            B.is(0, tells(young(9), 0, 9 * 41), "check", 1);
            Played dead = young(2).then("set", 1, 6, 1).then("set", 1, 5, 99).then("keep");
            B.is(0, tells(dead, 1, 41 + 99, 1, 42 + 99), "check", 2);
            Played later = young(1).then("years", 3).then("seed", 77).then("master", 0, 0, 0, 0);
            B.is(0, tells(later, 0, 41), "check", 1);
            B.is(43, later, "told", 0, 5);
            B.is(77, later, "count", 9);
            oldOnes();
        });
    }

    /** So many MASTERS of 40, and an image. */
    private static Played young(int many) {
        return new Played().times(many, "master", 0, 0, 0, 0).then("keep");
    }

    private static Played tells(Played p, int... row) {
        for (int v : row) {
            p.call("tell", v);
        }
        return p;
    }

    /** The row of young ones, in which nobody dies for ten years. */
    private static int[] youngRow(int many, int years) {
        int[] row = new int[2 * years];
        for (int year = 0; year < years; year++) {
            row[2 * year + 1] = many * (YOUNG + 1 + year);
        }
        return row;
    }

    private static void oldOnes() {
        for (int seed = 0; seed < 20; seed++) {
            Played p = new Played().then("seed", seed);
            int[] age = new int[9];
            boolean[] dead = new boolean[9];
            for (int m = 0; m < 9; m++) {
                age[m] = 51 + 6 * m;
                p.master(0, 0).then("set", m, 5, age[m]);
            }
            p.call("keep");
            tells(p, playYears(seed, age, dead, 30));
            B.is(0, p, "check", 30);
        }
    }

    private static int[] playYears(int z, int[] age, boolean[] dead, int years) {
        int[] row = new int[2 * years];
        for (int year = 0; year < years; year++) {
            for (int m = 0; m < age.length; m++) {
                if (!dead[m]) {
                    z = z * 1103515245 + 12345;
                    dead[m] = (z >>> 8) % 100 < age[m] - 50;
                    age[m] = dead[m] ? age[m] : Math.min(99, age[m] + 1);
                }
                row[2 * year] += dead[m] ? 1 : 0;
                row[2 * year + 1] += age[m];
            }
        }
        return row;
    }

    private static void promises46And47() {
        B.sentence("One more number waits: how many. FULL: 60 wait.", () -> {
            Played p = new Played();
            for (int i = 1; i <= 60; i++) {
                B.is(i, p, "tell", i % 2 == 0 ? MIN : MAX);
            }
            B.is(FULL, p, "tell", 0);
            B.is(60, p, "count", WAITING);
            Consumer<Played> full = q -> q.times(60 - Rich.WAITING, "tell", 0);
            B.refuses(FULL, full, "tell", 0);
            B.refuses(FULL, full, "tell", MIN);
        });
        B.sentence("The numbers that wait (none do then, whatever is answered) are THE YEARS TOLD of n (1 .. 30), two by two: 0", () -> {
            Played p = young(2);
            for (int n : new int[] {1, 10}) {
                B.is(0, tells(p, youngRow(2, n)), "check", n);
                B.is(0, p, "count", WAITING);
            }
            B.is(1, p, "check", 1);
            B.is(1, tells(p, 9), "check", 1);
            B.is(0, p, "count", WAITING);
            B.is(0, tells(young(0), new int[60]), "check", 30);
            B.is(0, tells(young(0), new int[58]), "check", 29);
        });
        B.sentence("else 1 and how many stand right ahead of the first that is not (or is missing, or one too many).", BoundsOfRowsTest::firstWrong);
        B.sentence("BAD; NO: there is no IMAGE.", () -> {
            Consumer<Played> emptied = p -> p.call("check", 1);
            for (int n : new int[] {0, -1, 31, MIN, MAX}) {
                B.refuses(BAD, p -> { }, emptied, "check", n);
                Played none = tells(new Played(), 1, 2, 3);
                B.is(BAD, none, "check", n);
                B.is(0, none, "count", WAITING);
            }
            for (int n : new int[] {1, 30}) {
                Played none = tells(new Played(), 1, 2, 3);
                B.is(NO, none, "check", n);
                B.is(0, none, "count", WAITING);
            }
            B.holds("30 is not refused", Rich.made().call("check", 30) == 7);
            B.holds("1 is not refused", Rich.made().call("check", 1) == 3);
        });
    }

    private static void firstWrong() {
        for (int n : new int[] {1, 2, 10}) {
            int[] row = youngRow(3, n);
            for (int place = 0; place < row.length; place++) {
                for (int by : new int[] {1, -1, MIN}) {
                    int[] wrong = row.clone();
                    wrong[place] += by;
                    B.is(1 + place, tells(young(3), wrong), "check", n);
                }
                B.is(1 + place, tells(young(3), java.util.Arrays.copyOf(row, place)), "check", n);
            }
            int[] longer = youngRow(3, n + 1);
            B.is(1 + 2 * n, tells(young(3), java.util.Arrays.copyOf(longer, 2 * n + 1)), "check", n);
            B.is(1 + 2 * n, tells(young(3), longer), "check", n);
        }
        B.is(59, tells(young(0), new int[60]), "check", 29);
        B.is(60, tells(young(0), new int[59]), "check", 30);
        int[] lastWrong = new int[60];
        lastWrong[59] = 1;
        B.is(60, tells(young(0), lastWrong), "check", 30);
        B.is(3, tells(young(0), lastWrong), "check", 1);
    }

    private static void promises48To50() {
        B.sentence("AN IMAGE is kept: how many MASTERS.", () -> {
            B.is(0, new Played(), "keep");
            B.is(9, new Played().then("deal", 9), "keep");
            Played p = new Played().then("keep").master(0, 0);
            B.is(1, p, "keep");
            B.is(1, p.master(0, 0), "back");
        });
        B.sentence("All is as THE IMAGE: how many MASTERS. NO: there is none.", () -> {
            Played p = new Played().master(0, 0).then("wants", 0);
            B.is(NO, p, "back");
            B.is(1, p, "count", 0);
            B.is(1, p, "count", 4);
            B.is(1, p, "keep");
            B.is(1, p.then("deal", 9), "back");
            B.is(1, p, "count", 0);
            B.is(Bounds.BAD, p, "told", 1, 0);
            B.is(9, new Played().then("deal", 9).then("keep"), "back");
        });
        B.sentence("0 how many MASTERS, 1 those DEAD, 2 THE DAY, 3 how many GESTURES it KNOWS, 4 how many THE CHAIR wants, 5 whether it CAN make it (1, 0), 6 TEXTS, 7 numbers that wait, 8 bytes of THE TAPE, 9 z. BAD.", () -> {
            B.bounds("count", 0, 0, 9, 0);
            int[] counts = {Rich.MASTERS, 1, 11, 3, 4, 1, Rich.TEXTS, Rich.WAITING, Rich.TAPE, 99};
            for (int what = 0; what < counts.length; what++) {
                B.is(counts[what], Rich.made(), "count", what);
            }
            Played p = Rich.made().then("master", 0, 0, 0, 0).then("set", 1, 6, 1).then("use", 0).then("learn", 7).then("wants", 9);
            p.then("tell", 0).then("feed", 0, 0, 0).then("seed", MIN);
            int[] then = {Rich.MASTERS + 1, 2, 11 + 1 + 14, 4, 5, 0, Rich.TEXTS, Rich.WAITING + 1, Rich.TAPE + 12, MIN};
            for (int what = 0; what < then.length; what++) {
                B.is(then[what], p, "count", what);
            }
        });
    }
}
