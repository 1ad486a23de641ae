import java.util.function.Consumer;

/** The bounds of the document's part 1 and of promises 1 to 11, sentence by sentence. */
public final class BoundsOfMastersTest {
    private static final int BAD = Bounds.BAD;
    private static final int NONE = Bounds.NONE;
    private static final int MIN = Bounds.MIN;
    private static final int MAX = Bounds.MAX;
    private static final int MASTER = 0;
    private static final int STRICT = 1;
    private static final int KINDLY = 2;
    private static final int STERN = 3;
    private static final int MILD = 4;
    private static final int SLY = 5;
    private static final int TAKES = 7;
    private static final int TEACHES = 8;
    private static final int WORTH = 9;
    private static final Bounds B = new Bounds("BoundsOfMastersTest");

    public static void main(String[] args) {
        terms();
        takes();
        teaches();
        worth();
        promises1To5();
        promises6To8();
        promises9To11();
        B.end();
    }

    private static void terms() {
        B.sentence("Sets of GESTURES, of MASTERS are told as bits (bit k for number k).", BoundsOfMastersTest::bits);
        B.sentence("GESTURES are 0 .. 9.", BoundsOfMastersTest::gestures);
        B.sentence("MASTERS, 9 at most, numbered from 0", BoundsOfMastersTest::nineAtMost);
        B.sentence("a TOWN 0 .. 5", BoundsOfMastersTest::towns);
        B.sentence("BARS (a set of two GESTURES at most, not its own)", BoundsOfMastersTest::barsAreTwoAtMost);
        B.sentence("FEE 0 .. 99", () -> {
            B.bounds("master", 3, 0, 99, 0, 0, 0, 0);
            B.bounds("set", 2, 0, 99, 0, 4, 0);
            ends("master", 4, 0, 99);
        });
        B.sentence("AGE 0 .. 99 (40 at first)", () -> {
            B.is(40, new Played().master(0, 0), "told", 0, 5);
            B.bounds("set", 2, 0, 99, 0, 5, 0);
            ends("set", 5, 0, 99);
        });
        B.sentence("DEAD or not (not)", () -> {
            B.is(0, new Played().master(0, 0), "told", 0, 6);
            B.bounds("set", 2, 0, 1, 0, 6, 0);
            ends("set", 6, 0, 1);
        });
        B.sentence("0 MASTER; 1 STRICT, 2 KIND, 5 SLY, under MASTER; 3 STERN, under STRICT; 4 MILD, under KIND (all are MASTERS)",
                BoundsOfMastersTest::kinds);
        B.sentence("ROADS: of two TOWNS 0 .. 9 days (0: none; none at first; the same both ways; a TOWN to itself none)",
                BoundsOfMastersTest::roads);
    }

    private static void bits() {
        Played p = new Played().master(MILD, 0).master(MILD, 9).master(MASTER, 5);
        B.is(0, p, "bars", 2, 0, 9);
        B.is(1 | 1 << 9, p, "told", 2, 3);
        B.is(1, p, "learn", 0);
        B.is(1 | 1 << 9, p, "learn", 1);
        B.is(1 | 1 << 9, p, "apprentice", 1);
    }

    private static void gestures() {
        Played p = new Played();
        B.is(0, p, "master", 0, 0, 0, 0);
        B.is(1, p, "master", 0, 0, 9, 0);
        B.is(0, p, "told", 0, 2);
        B.is(9, p, "told", 1, 2);
        B.bounds("master", 2, 0, 9, 0, 0, 0, 0);
        B.bounds("bars", 1, 1, 9, 0, 1, 9);
        B.bounds("bars", 2, 1, 9, 0, 9, 1);
        B.bounds("knows", 0, 0, 9, 0, 0);
        B.bounds("use", 0, 0, 9, 0);
        B.bounds("wants", 0, 0, 9, 0);
        B.bounds("last", 0, 0, 9, 0);
    }

    private static void nineAtMost() {
        Played p = new Played();
        for (int i = 0; i < 9; i++) {
            B.is(BAD, p, "told", i, 0);
            B.is(i, p, "master", 0, 0, 0, 0);
            B.is(0, p, "told", i, 0);
        }
        B.is(9, p, "count", 0);
        B.is(Bounds.FULL, p, "master", 0, 0, 0, 0);
        B.is(9, p, "count", 0);
        B.is(BAD, p, "told", 9, 0);
        B.is(BAD, p, "told", -1, 0);
    }

    private static void towns() {
        Played p = new Played();
        B.is(0, p, "master", 0, 0, 0, 0);
        B.is(1, p, "master", 0, 5, 0, 0);
        B.is(0, p, "told", 0, 1);
        B.is(5, p, "told", 1, 1);
        B.bounds("master", 1, 0, 5, 0, 0, 0, 0);
        B.bounds("road", 0, 0, 5, 0, 1, 1);
        B.bounds("road", 1, 0, 5, 1, 0, 1);
        B.bounds("far", 0, 0, 5, 0, 1);
        B.bounds("far", 1, 0, 5, 1, 0);
        B.bounds("go", 0, 0, 5, 0);
    }

    private static void barsAreTwoAtMost() {
        Played p = new Played().master(0, 0);
        B.is(0, p, "told", 0, 3);
        B.is(0, p, "bars", 0, 1, 2);
        B.is(1 << 1 | 1 << 2, p, "bars", 0, 8, 9);
        B.is(1 << 8 | 1 << 9, p, "bars", 0, 9, 9);
        B.is(1 << 9, p, "told", 0, 3);
        B.refuses(BAD, "bars", 0, 0, 1);
        B.refuses(BAD, "bars", 0, 1, 0);
        B.refuses(BAD, "bars", 0, 0, 0);
    }

    /** Both ends of what told tells come in by master (as the FEE) or by set. */
    private static void ends(String by, int what, int least, int most) {
        for (int v : new int[] {least, most}) {
            Played p = new Played();
            p.call("master", 0, 0, 0, by.equals("master") ? v : 0);
            if (by.equals("set")) {
                p.call("set", 0, what, v);
            }
            B.is(v, p, "told", 0, what);
        }
    }

    private static void kinds() {
        boolean[][] isOf = {{true, false, false, false, false, false}, {true, true, false, false, false, false},
            {true, false, true, false, false, false}, {true, true, false, true, false, false},
            {true, false, true, false, true, false}, {true, false, false, false, false, true}};
        for (int kind = 0; kind < 6; kind++) {
            Played p = new Played().then("master", kind, 0, 0, 33).then("lay", 0, 1, 0);
            int worth = p.call("told", 0, WORTH);
            for (int asked = 0; asked < 6; asked++) {
                B.is(isOf[kind][asked] ? 33 : Bounds.KIND, p, "as", 0, asked);
                B.is(isOf[kind][asked] ? worth : Bounds.KIND, p, "ask", 0, asked);
            }
        }
    }

    private static void roads() {
        Played p = new Played();
        for (int one = 0; one < 6; one++) {
            for (int other = 0; other < 6; other++) {
                B.is(one == other ? BAD : 0, p, "road", one, other, 0);
            }
        }
        B.is(0, p, "road", 0, 5, 9);
        B.is(9, p, "road", 5, 0, 1);
        B.is(1, p, "road", 0, 5, 0);
        B.is(Bounds.NO, p, "go", 5);
        B.is(0, p, "road", 5, 0, 0);
        B.bounds("road", 2, 0, 9, 0, 1, 1);
        for (int town = 0; town < 6; town++) {
            B.refuses(BAD, "road", town, town, 1);
        }
    }

    private static void takes() {
        B.sentence("MASTER: what term gives, held within 1 .. 99 (without a TEXT: 3, and k).", () -> {
            takesOf(MASTER, 40, "0-9999", 1, "0-1", 1, "0", 1, "1", 1, "2", 2, "98", 98, "99", 99, "100", 99, "9999", 99);
            takesOf(MASTER, 40, "8192*8192*32", 1, "8192*8192*32-1", 99, "9999*9999*9999", held(9999 * 9999 * 9999));
            withoutText();
        });
        B.sentence("STRICT: twice as MASTER.", () -> takesOf(STRICT, 99, "0", 2, "1", 2, "99", 198, "100", 198));
        B.sentence("STERN: as STRICT, and AGE / 10.", () -> {
            for (int age : new int[] {0, 9, 10, 19, 20, 89, 90, 99}) {
                takesOf(STERN, age, "0", 2 + age / 10, "1", 2 + age / 10, "99", 198 + age / 10, "100", 198 + age / 10);
            }
        });
        B.sentence("KIND: as MASTER, less 1 (1 at least).",
                () -> takesOf(KINDLY, 99, "0", 1, "1", 1, "2", 1, "3", 2, "99", 98, "100", 98));
        B.sentence("MILD: half (cut) of as KIND, 1 at least.",
                () -> takesOf(MILD, 99, "0", 1, "2", 1, "3", 1, "4", 1, "5", 2, "6", 2, "7", 3, "99", 49, "98", 48, "100", 49));
        B.sentence("SLY: 1.", () -> takesOf(SLY, 99, "0", 1, "1", 1, "2", 1, "99", 1, "100", 1));
        B.sentence("All numbers are whole; / cuts towards 0.", () -> {
            takesOf(STERN, 9, "1", 2);
            takesOf(STERN, 99, "1", 11);
            takesOf(MASTER, 40, "7/2", 3, "50+(0-7)/2", 47, "50+7/(0-2)", 47, "50+(0-7)/(0-2)", 53);
        });
    }

    private static int held(int v) {
        return Math.max(1, Math.min(99, v));
    }

    /** Rows of a term and what a MASTER of a KIND and an AGE takes by it. */
    private static void takesOf(int kind, int age, Object... rows) {
        for (int i = 0; i < rows.length; i += 2) {
            Played p = new Played().master(kind, 0).then("set", 0, 5, age);
            p.text("term " + rows[i]);
            B.is((Integer) rows[i + 1], p, "told", 0, TAKES);
        }
    }

    private static void withoutText() {
        Played p = new Played();
        for (int g = 0; g < 8; g++) {
            p.master(MILD, g);
        }
        p.master(MASTER, 9);
        for (int k = 0; k < 8; k++) {
            B.is(3 + k, p, "told", 8, TAKES);
            p.call("learn", k);
        }
        B.is(11, p, "told", 8, TAKES);
    }

    private static void teaches() {
        B.sentence("MASTER: if none of it is in BARS.", () -> {
            teachesOf(MASTER, 0, 1);
            teachesOf(MASTER, 4 | 8, 1);
            teachesOf(MASTER, 1, 0);
            teachesOf(MASTER, 2, 0);
            teachesOf(MASTER, 3 | 4 | 8, 0);
        });
        B.sentence("STERN: as STRICT, and if there are 3 GESTURES in it at least.", () -> {
            teachesOf(STERN, 0, 0);
            teachesOf(STERN, 4 | 8, 0);
            teachesOf(STERN, 4 | 8 | 16, 1);
            teachesOf(STERN, 4 | 8 | 16 | 32, 1);
            teachesOf(STERN, 1 | 4 | 8, 0);
            teachesOf(STERN, 2 | 4 | 8 | 16, 0);
        });
        B.sentence("KIND: always; what BARS tells is UNLEARNT.", () -> {
            teachesOf(KINDLY, 0, 1);
            teachesOf(KINDLY, 3, 1);
            learns(KINDLY, 1 | 2 | 4, 4 | 1 << 9);
            learns(KINDLY, 2, 1 << 9);
            learns(KINDLY, 4, 4 | 1 << 9);
        });
        B.sentence("MILD: always; nothing is UNLEARNT.", () -> {
            teachesOf(MILD, 0, 1);
            teachesOf(MILD, 3, 1);
            learns(MILD, 1 | 2 | 4, 7 | 1 << 9);
        });
        B.sentence("SLY: if no more than one of BARS is in it. (STRICT as MASTER.)", () -> {
            teachesOf(SLY, 4, 1);
            teachesOf(SLY, 1, 1);
            teachesOf(SLY, 2 | 4, 1);
            teachesOf(SLY, 3, 0);
            learns(SLY, 1 | 4, 5 | 1 << 9);
            teachesOf(STRICT, 0, 1);
            teachesOf(STRICT, 4, 1);
            teachesOf(STRICT, 1, 0);
            teachesOf(STRICT, 2, 0);
        });
    }

    /** One who knows a set of 0 .. 6, and a MASTER of a KIND, number 7, who teaches 9 and bars 0 and 1. */
    private static Played oneWhoKnows(int set, int kind) {
        Played p = new Played();
        for (int g = 0; g < 7; g++) {
            p.master(MILD, g);
        }
        p.master(kind, 9).then("bars", 7, 0, 1);
        for (int g = 0; g < 7; g++) {
            if ((set & 1 << g) != 0) {
                p.call("learn", g);
            }
        }
        return p;
    }

    private static void teachesOf(int kind, int set, int due) {
        Played p = oneWhoKnows(set, kind);
        B.is(set, p, "apprentice", 1);
        B.is(due, p, "told", 7, TEACHES);
        B.holds("one who knows " + set + " learns of " + kind, (p.call("learn", 7) != Bounds.NO) == (due == 1));
    }

    private static void learns(int kind, int set, int due) {
        B.is(due, oneWhoKnows(set, kind), "learn", 7);
    }

    private static void worth() {
        B.sentence("WORTH: MASTER: FEE.", () -> worthOf(MASTER, 0, 1, 98, 99));
        B.sentence("STRICT: as MASTER, and 11.", () -> worthOf(STRICT, 11, 12, 109, 110));
        B.sentence("STERN: twice as STRICT.", () -> worthOf(STERN, 22, 24, 218, 220));
        B.sentence("KIND: 99 less FEE.", () -> worthOf(KINDLY, 99, 98, 1, 0));
        B.sentence("MILD: as KIND, less 4.", () -> worthOf(MILD, 95, 94, -3, -4));
        B.sentence("SLY: 8. (A KIND that is not named does as the one above it.)", () -> worthOf(SLY, 8, 8, 8, 8));
    }

    /** Of FEES 0, 1, 98, 99. */
    private static void worthOf(int kind, int... dues) {
        int[] fees = {0, 1, 98, 99};
        for (int i = 0; i < fees.length; i++) {
            Played p = new Played().then("master", kind, 0, 0, fees[i]).then("lay", 0, 1, 0);
            B.is(dues[i], p, "told", 0, WORTH);
            B.is(dues[i], p, "ask", 0, kind);
        }
    }

    private static void promises1To5() {
        B.sentence("As told; no MASTERS, no ROADS, no CHAIR.", BoundsOfMastersTest::newObject);
        B.sentence("One more MASTER (BARS none): its number. BAD; FULL.", BoundsOfMastersTest::masterRefused);
        B.sentence("Of a MASTER: what 0 KIND, 1 TOWN, 2 GESTURE, 3 BARS, 4 FEE, 5 AGE, 6 whether DEAD (1, 0)", () -> {
            int[][] most = {{5, 5, 9, 99, 99, 1, 0, 1}, {0, 0, 0, 0, 0, 0, 8, 9}};
            for (int[] m : most) {
                Played p = new Played().then("master", m[0], m[1], m[2], m[3]).then("set", 0, 5, m[4]).then("set", 0, 6, m[5]);
                p.call("bars", 0, m[6], m[7]);
                int[] dues = {m[0], m[1], m[2], 1 << m[6] | 1 << m[7], m[3], m[4], m[5]};
                for (int what = 0; what < dues.length; what++) {
                    B.is(dues[what], p, "told", 0, what);
                }
            }
        });
        B.sentence("7 what it TAKES for as many as THE APPRENTICE KNOWS, 8 whether it TEACHES that one (1, 0; DEAD or not), 9 WORTH. BAD.", () -> {
            B.bounds("told", 0, 0, Rich.MASTERS - 1, 0, 0);
            B.bounds("told", 1, 0, 9, 0, 0);
            Played p = new Played().master(0, 0).then("set", 0, 6, 1);
            B.is(1, p, "told", 0, TEACHES);
            B.is(3, p, "told", 0, TAKES);
        });
        B.sentence("A MASTER as one of a KIND: FEE. BAD: master, kind; KIND: it is not of that KIND, nor of one under it.", () -> {
            B.bounds("as", 0, 0, Rich.MASTERS - 1, 0, 0);
            B.bounds("as", 1, 0, 5, 0, 0);
            B.refuses(Bounds.KIND, "as", 0, 1);
            B.refuses(Bounds.KIND, "as", 1, 3);
            B.refuses(BAD, "as", 8, 1);
        });
        B.sentence("A MASTER is of a KIND (perhaps the same) from now on: what it was. BAD.", () -> {
            B.bounds("turns", 0, 0, Rich.MASTERS - 1, 0, 0);
            B.bounds("turns", 1, 0, 5, 0, 0);
            Played p = new Played().master(5, 0);
            B.is(5, p, "turns", 0, 5);
            B.is(5, p, "turns", 0, 0);
            B.is(0, p, "told", 0, 0);
        });
    }

    private static void newObject() {
        Played p = new Played();
        int[] counts = {0, 0, 0, 0, 0, 1, 0, 0, 0, 1};
        for (int what = 0; what < counts.length; what++) {
            B.is(counts[what], p, "count", what);
        }
        int[] apprentice = {0, 0, 100, 0};
        for (int what = 0; what < apprentice.length; what++) {
            B.is(apprentice[what], p, "apprentice", what);
        }
        for (int town = 1; town < 6; town++) {
            B.is(NONE, p, "far", 0, town);
        }
        B.is(BAD, p, "told", 0, 0);
        B.is(0, p, "clear");
        B.is(0, p, "trim", 0);
        for (int sheet = 0; sheet < 4; sheet++) {
            B.is(Bounds.NOTHING, p, "pour", sheet);
        }
        for (int slot = 0; slot < 5; slot++) {
            B.is(0, p, "lay", slot, 0, 0);
        }
        B.is(Bounds.NO, p, "back");
    }

    private static void masterRefused() {
        Consumer<Played> full = p -> p.call("master", 0, 0, 0, 0);
        B.refuses(Bounds.FULL, full, "master", 0, 0, 0, 0);
        B.refuses(Bounds.FULL, full, "master", 5, 5, 9, 99);
        int[][] wrong = {{-1, 0, 0, 0}, {6, 0, 0, 0}, {0, -1, 0, 0}, {0, 6, 0, 0}, {0, 0, -1, 0}, {0, 0, 10, 0}, {0, 0, 0, -1}, {0, 0, 0, 100}};
        for (int[] w : wrong) {
            B.refuses(BAD, "master", w);
            B.refuses(BAD, full, "master", w);
        }
        B.bounds("master", 0, 0, 5, 0, 0, 0, 0);
        B.is(0, new Played().then("master", 5, 5, 9, 99), "told", 0, 3);
    }

    private static void promises6To8() {
        B.sentence("FEE (what 4), AGE (5), DEAD (6; 1, 0) of a MASTER becomes v: what it was. BAD.", () -> {
            B.bounds("set", 0, 0, Rich.MASTERS - 1, 0, 4, 0);
            B.bounds("set", 1, 4, 6, 0, 4, 0);
            Played p = new Played().master(0, 0);
            B.is(0, p, "set", 0, 4, 99);
            B.is(99, p, "set", 0, 4, 0);
            B.is(40, p, "set", 0, 5, 99);
            B.is(99, p, "set", 0, 5, 0);
            B.is(0, p, "set", 0, 6, 1);
            B.is(1, p, "set", 0, 6, 0);
        });
        B.sentence("BARS of a MASTER become two GESTURES (perhaps the same one): what they were. BAD: also its own.", () -> {
            B.bounds("bars", 0, 0, Rich.MASTERS - 1, 0, 8, 9);
            for (int m = 0; m < Rich.MASTERS; m++) {
                B.refuses(BAD, "bars", m, m, 9);
                B.refuses(BAD, "bars", m, 9, m);
            }
            Played p = Rich.made();
            B.is(1 << 1 | 1 << 2, p, "bars", 0, 9, 9);
            B.is(1 << 9, p, "told", 0, 3);
        });
        B.sentence("The ROAD of two TOWNS becomes days (0 .. 9): what it was. BAD: also a TOWN to itself.", () -> {
            Played p = new Played();
            B.is(0, p, "road", 4, 5, 9);
            B.is(9, p, "road", 4, 5, 0);
            B.is(0, p, "road", 4, 5, 1);
            for (int days : new int[] {-1, 10, MIN, MAX}) {
                B.refuses(BAD, "road", 0, 1, days);
            }
            B.refuses(BAD, "road", 5, 5, 0);
            B.refuses(BAD, "road", 6, 6, 1);
        });
    }

    private static void promises9To11() {
        B.sentence("FAR. BAD; NONE: there is no way.", () -> {
            B.refuses(NONE, "far", 0, 5);
            B.refuses(NONE, "far", 4, 3);
            B.refuses(BAD, "far", 6, 5);
            B.refuses(BAD, "far", 5, 6);
            B.refuses(BAD, "far", -1, -1);
            B.is(0, new Played(), "far", 5, 5);
        });
        B.sentence("MASTERS are drawn, n (1 .. 9) of them, as many as there is room for (no draws for others): how many came. BAD.",
                BoundsOfMastersTest::deal);
        B.sentence("KIND the rest of a draw by 6, TOWN that of one more by 6, GESTURE that of one more by 10, FEE that of one more by 40; BARS none.",
                BoundsOfMastersTest::drawn);
        B.sentence("z becomes z * 1103515245 + 12345 (an int); it gives z >>> 8.", BoundsOfMastersTest::draws);
        B.sentence("z becomes v: what it was.", () -> {
            Played p = new Played();
            B.is(1, p, "seed", MIN);
            B.is(MIN, p, "seed", MAX);
            B.is(MAX, p, "seed", 0);
            B.is(0, p, "count", 9);
        });
    }

    private static void deal() {
        B.bounds("deal", 0, 1, 9, 1);
        for (int there = 0; there <= 9; there++) {
            for (int n : new int[] {1, 9 - there, 10 - there, 9}) {
                if (n >= 1 && n <= 9) {
                    Played p = new Played().times(there, "master", 0, 0, 0, 0);
                    int came = Math.min(n, 9 - there);
                    B.is(came, p, "deal", n);
                    B.is(there + came, p, "count", 0);
                    B.is(zBehind(1, 4 * came), p, "count", 9);
                }
            }
        }
    }

    private static int zBehind(int z, int draws) {
        for (int i = 0; i < draws; i++) {
            z = z * 1103515245 + 12345;
        }
        return z;
    }

    private static void drawn() {
        int[] whats = {0, 1, 2, 4};
        int[] bounds = {6, 6, 10, 40};
        for (int seed : new int[] {0, 1, -1, MIN, MAX, 99}) {
            Played p = new Played().then("seed", seed).then("deal", 9);
            for (int m = 0; m < 9; m++) {
                for (int i = 0; i < 4; i++) {
                    B.is((zBehind(seed, 4 * m + i + 1) >>> 8) % bounds[i], p, "told", m, whats[i]);
                }
                B.is(0, p, "told", m, 3);
                B.is(40, p, "told", m, 5);
                B.is(0, p, "told", m, 6);
            }
        }
    }

    /** Of a negative z, too, what is drawn is not below 0. */
    private static void draws() {
        for (int seed = -40; seed < 40; seed++) {
            Played p = new Played().then("seed", seed).then("deal", 1);
            B.is(zBehind(seed, 4), p, "count", 9);
            B.is((zBehind(seed, 1) >>> 8) % 6, p, "told", 0, 0);
        }
    }
}
