import java.util.function.Consumer;

/** The bounds of the document's part 2 and of promises 12 to 18, sentence by sentence. */
public final class BoundsOfApprenticeTest {
    private static final int BAD = Bounds.BAD;
    private static final int NO = Bounds.NO;
    private static final int MIN = Bounds.MIN;
    private static final int MAX = Bounds.MAX;
    private static final int MASTER = 0;
    private static final int STRICT = 1;
    private static final int KINDLY = 2;
    private static final int STERN = 3;
    private static final int MILD = 4;
    private static final int SLY = 5;
    private static final int KNOWS = 1;
    private static final int COINS = 2;
    private static final int FORGETS = 3;
    private static final int DAY = 2;
    private static final Bounds B = new Bounds("BoundsOfApprenticeTest");

    public static void main(String[] args) {
        terms();
        days();
        learning();
        years();
        promises12To15();
        promises16To18();
        B.end();
    }

    private static void terms() {
        B.sentence("AT a TOWN (0 at first), KNOWS (a set; none at first), COINS 0 .. 9999 (100 at first)", () -> {
            Played p = new Played();
            B.is(0, p, "apprentice", 0);
            B.is(0, p, "apprentice", KNOWS);
            B.is(100, p, "apprentice", COINS);
            B.is(100, p, "has", COINS, 9999);
            B.is(9999, p, "has", COINS, 0);
            B.is(0, p, "apprentice", COINS);
            B.bounds("has", 1, 0, 9999, COINS, 0);
        });
        B.sentence("FROM (the MASTER by whom it came; none else)", () -> {
            Played p = new Played().times(8, "master", SLY, 0, 3, 0).master(SLY, 3);
            B.is(1 << 3, p, "learn", 8);
            B.is(8, p, "knows", 3, 0);
            p.then("has", FORGETS, 1).then("rests", 2);
            B.is(NO, p, "knows", 3, 0);
            B.is(1 << 3, p, "learn", 0);
            B.is(0, p, "knows", 3, 0);
        });
        B.sentence("REST (days since it came or was last used)", () -> {
            Played p = new Played().master(STRICT, 3);
            B.is(1 << 3, p, "learn", 0);
            B.is(0, p, "knows", 3, 1);
            p.call("rests", 7);
            B.is(7, p, "knows", 3, 1);
            p.call("use", 3);
            B.is(1, p, "knows", 3, 1);
        });
        B.sentence("FORGETS (days of REST behind which a GESTURE is forgotten) is 0 .. 99 (0: never; at first).", () -> {
            Played p = new Played().master(SLY, 3).then("learn", 0);
            B.is(0, p, "apprentice", FORGETS);
            B.is(1 << 3, p.times(99, "rests", 100), "rests", 100);
            B.is(0, p, "has", FORGETS, 99);
            B.is(99, p, "has", FORGETS, 0);
            B.bounds("has", 1, 0, 99, FORGETS, 0);
        });
        B.sentence("THE DAY is 0 at first, 9999 at most.", BoundsOfApprenticeTest::lastDay);
    }

    /** By each of the calls that let days go by, to the last day and beyond it. */
    private static void lastDay() {
        B.is(0, new Played(), "count", DAY);
        for (int before = 9997; before <= 9999; before++) {
            for (int n = 1; n <= 4; n++) {
                int due = Math.min(9999, before + n);
                B.is(due, new Played().restUntil(before).then("rests", n), "count", DAY);
                B.is(due, new Played().then("road", 0, 1, n).restUntil(before), "go", 1);
                Played learning = new Played().master(MASTER, 0);
                learning.text("term " + n);
                B.is(due, learning.restUntil(before).then("learn", 0), "count", DAY);
            }
            Played using = new Played().master(SLY, 0).then("learn", 0).restUntil(before - 1);
            B.is(Math.min(9999, before + 1), using.then("use", 0), "count", DAY);
            Played making = new Played().master(SLY, 0).then("learn", 0).times(2, "wants", 0).restUntil(before - 1);
            B.is(Math.min(9999, before + 2), making, "made");
        }
        Played p = new Played().master(SLY, 0).then("learn", 0).restUntil(9999);
        B.is(9999, p, "count", DAY);
        B.is(1, p, "rests", 100);
        B.is(9999, p, "count", DAY);
    }

    private static void days() {
        B.sentence("DAYS go by: THE DAY is so much more (9999 at most), REST of each GESTURE that it KNOWS is so much more", () -> {
            Played p = new Played().master(SLY, 0).master(SLY, 9).then("learn", 0).then("learn", 1);
            B.is(1, p, "knows", 0, 1);
            B.is(0, p, "knows", 9, 1);
            p.call("rests", 100);
            B.is(102, p, "count", DAY);
            B.is(101, p, "knows", 0, 1);
            B.is(100, p, "knows", 9, 1);
            B.is(NO, p, "knows", 5, 1);
        });
        B.sentence("those with REST above FORGETS (if that is not 0) it KNOWS no more.", BoundsOfApprenticeTest::forgetting);
        B.sentence("TO GO to another TOWN on the ROAD: so many DAYS go by, it is AT that one.", () -> {
            for (int days = 1; days <= 9; days++) {
                Played p = new Played().then("road", 0, 5, days);
                B.is(days, p, "go", 5);
                B.is(5, p, "apprentice", 0);
                B.is(2 * days, p, "go", 0);
                B.is(0, p, "apprentice", 0);
            }
            Played direct = new Played().then("road", 0, 1, 9).then("road", 0, 2, 1).then("road", 2, 1, 1);
            B.is(2, direct, "far", 0, 1);
            B.is(9, direct, "go", 1);
        });
        B.sentence("TO USE a GESTURE that it KNOWS: its REST is 0; then one DAY goes by.", () -> {
            Played p = new Played().master(SLY, 0).then("learn", 0).then("rests", 50).then("has", FORGETS, 1);
            B.is(1, p, "use", 0);
            B.is(1, p, "knows", 0, 1);
            B.is(52, p, "count", DAY);
            B.is(1, p, "use", 0);
            B.is(1, p, "knows", 0, 1);
        });
    }

    /** REST may be as much as FORGETS; one day more, and it is forgotten, whatever lets the day go by. */
    private static void forgetting() {
        for (int forgets : new int[] {1, 2, 50, 98, 99}) {
            B.is(1, resting(forgets, forgets - 1), "rests", 1);
            B.is(0, resting(forgets, forgets), "rests", 1);
            B.is(0, resting(forgets, 0), "rests", forgets + 1);
            B.is(1, resting(forgets, 0), "rests", forgets);
            B.is(1 | 1 << 5, resting(forgets, forgets - 1), "learn", 1);
            B.is(1 << 5, resting(forgets, forgets), "learn", 1);
            B.is(1, resting(forgets, forgets - 1).then("go", 1), "apprentice", KNOWS);
            B.is(0, resting(forgets, forgets).then("go", 1), "apprentice", KNOWS);
            B.is(1 << 5, resting(forgets, forgets - 1).then("learn", 1), "use", 5);
            B.is(1, resting(forgets, forgets), "use", 0);
        }
        Played p = resting(99, 99).then("has", FORGETS, 0);
        B.is(1, p, "rests", 100);
        p.call("has", FORGETS, 1);
        B.is(1, p, "apprentice", KNOWS);
        B.is(0, p, "rests", 1);
    }

    /** One who knows 0 and has let it rest for some days; a SLY one teaches 5, a road of one day goes to TOWN 1. */
    private static Played resting(int forgets, int rested) {
        Played p = new Played().master(SLY, 0).master(SLY, 5).then("road", 0, 1, 1);
        p.then("learn", 0).then("has", FORGETS, forgets);
        return rested == 0 ? p : p.then("rests", rested);
    }

    private static void learning() {
        B.sentence("whose FEE is not above its COINS", () -> {
            for (int fee : new int[] {0, 1, 99}) {
                Played p = new Played().then("master", MASTER, 0, 0, fee).then("has", COINS, fee);
                B.is(1, p, "learn", 0);
                B.is(0, p, "apprentice", COINS);
                if (fee > 0) {
                    Played poor = new Played().then("master", MASTER, 0, 0, fee).then("has", COINS, fee - 1);
                    B.is(NO, poor, "learn", 0);
                    B.is(fee - 1, poor, "apprentice", COINS);
                }
            }
        });
        B.sentence("COINS are less by FEE", () -> {
            Played p = new Played().then("master", SLY, 0, 0, 99).then("master", SLY, 0, 1, 1).then("master", SLY, 0, 2, 0);
            B.is(1, p.then("learn", 0), "apprentice", COINS);
            B.is(0, p.then("learn", 1), "apprentice", COINS);
            B.is(0, p.then("learn", 2), "apprentice", COINS);
            B.is(7, p, "apprentice", KNOWS);
        });
        B.sentence("as many DAYS go by as it TAKES (k: how many it KNOWS)", () -> {
            Played p = new Played().master(MASTER, 0).master(MASTER, 1).master(MASTER, 2);
            B.is(3, p.then("learn", 0), "count", DAY);
            B.is(3 + 4, p.then("learn", 1), "count", DAY);
            B.is(3 + 4 + 5, p.then("learn", 2), "count", DAY);
            Played forgetful = new Played().master(MASTER, 0).master(MASTER, 1).then("has", FORGETS, 1);
            B.is(2, forgetful.then("learn", 0), "learn", 1);
            B.is(3 + 4, forgetful, "count", DAY);
        });
        B.sentence("then, if it is a KIND, what BARS tells is UNLEARNT (it KNOWS it no more)", () -> {
            for (int kind : new int[] {KINDLY, MILD}) {
                Played p = new Played().master(SLY, 0).master(SLY, 1).master(kind, 2).then("bars", 2, 0, 9);
                p.then("learn", 0).then("learn", 1);
                B.is(kind == KINDLY ? 6 : 7, p, "learn", 2);
                B.is(kind == KINDLY ? NO : 0, p, "knows", 0, 0);
            }
        });
        B.sentence("then it KNOWS the GESTURE, FROM that MASTER, REST 0.", () -> {
            Played p = new Played().master(SLY, 0).master(STRICT, 9).then("has", FORGETS, 1).then("learn", 0);
            B.is(1 << 9, p, "learn", 1);
            B.is(1, p, "knows", 9, 0);
            B.is(0, p, "knows", 9, 1);
            Played anew = new Played().master(SLY, 9).master(SLY, 9).then("learn", 0).then("has", 3, 1).then("rests", 2);
            B.is(NO, anew, "knows", 9, 1);
            B.is(1 << 9, anew, "learn", 1);
            B.is(1, anew, "knows", 9, 0);
            B.is(0, anew, "knows", 9, 1);
        });
        B.sentence("TO LEARN of a MASTER in the TOWN where it is AT (not DEAD, that TEACHES one who KNOWS what it KNOWS, whose GESTURE it does not KNOW",
                BoundsOfApprenticeTest::cannotLearn);
    }

    private static void cannotLearn() {
        B.refuses(NO, "learn", 0);
        B.refuses(NO, "learn", 5);
        B.refuses(NO, p -> p.call("has", COINS, 19), "learn", 1);
        B.refuses(NO, p -> p.call("set", 1, 6, 1), "learn", 1);
        B.refuses(NO, p -> p.call("bars", 1, 0, 0), "learn", 1);
        B.refuses(NO, p -> p.then("turns", 1, SLY).then("bars", 1, 0, 4), "learn", 1);
        B.is(1 | 2 | 1 << 4 | 1 << 5, Rich.made().then("has", COINS, 20), "learn", 1);
        B.is(1 | 2 | 1 << 4 | 1 << 5, Rich.made().then("turns", 1, SLY).then("bars", 1, 0, 9), "learn", 1);
        Consumer<Played> forgotten = p -> p.then("has", FORGETS, 1).then("rests", 2).then("learn", 1).then("learn", 5);
        B.refuses(NO, forgotten, "learn", 3);
        B.is(2 | 1 << 3 | 1 << 5 | 1 << 6, threeKnown(), "learn", 3);
        B.refuses(NO, p -> p.call("master", STERN, 0, 9, 0), "learn", 8);
        B.refuses(NO, p -> p.call("master", SLY, 0, 9, 0), "learn", 8);
    }

    private static Played threeKnown() {
        Played p = Rich.made().then("has", FORGETS, 1).then("rests", 2).then("has", FORGETS, 0);
        p.then("master", SLY, 1, 6, 0).then("learn", 8).then("learn", 1).then("learn", 5);
        return p;
    }

    private static void years() {
        B.sentence("of each MASTER that is not DEAD, by numbers: a draw; if its rest by 100 is below AGE less 50, it is DEAD", () -> {
            for (int age : new int[] {0, 40, 49, 50, 51, 52, 75, 98, 99}) {
                for (int rest : new int[] {0, 1, 2, age - 52, age - 51, age - 50, age - 49, 48, 49, 50, 99}) {
                    if (rest >= 0 && rest <= 99) {
                        year(age, rest);
                    }
                }
            }
            deadOnesDrawNot();
        });
        B.sentence("else AGE is 1 more (99 at most).", () -> {
            for (int age : new int[] {0, 49, 97, 98, 99}) {
                Played p = new Played().master(0, 0).then("set", 0, 5, age).then("seed", seedFor(99)).then("years", 1);
                B.is(Math.min(99, age + 1), p, "told", 0, 5);
                B.is(0, p, "told", 0, 6);
            }
        });
        B.sentence("z is told (1 at first).", () -> B.is(1, new Played(), "count", 9));
    }

    /** One MASTER of an AGE lives through a year whose draw has a rest by 100. */
    private static void year(int age, int rest) {
        boolean dies = rest < age - 50;
        Played p = new Played().master(0, 0).then("set", 0, 5, age).then("seed", seedFor(rest));
        B.is(dies ? 1 : 0, p, "years", 1);
        B.is(dies ? 1 : 0, p, "told", 0, 6);
        B.is(dies ? age : Math.min(99, age + 1), p, "told", 0, 5);
        B.is(next(seedFor(rest)), p, "count", 9);
    }

    private static int next(int z) {
        return z * 1103515245 + 12345;
    }

    private static int seedFor(int rest) {
        int z = 0;
        while ((next(z) >>> 8) % 100 != rest) {
            z++;
        }
        return z;
    }

    private static void deadOnesDrawNot() {
        Played p = new Played().master(0, 0).master(0, 1).master(0, 2).then("set", 1, 6, 1).then("seed", 5);
        B.is(0, p, "years", 1);
        B.is(next(next(5)), p, "count", 9);
        B.is(41, p, "told", 0, 5);
        B.is(40, p, "told", 1, 5);
        B.is(41, p, "told", 2, 5);
        B.is(1, p, "count", 1);
    }

    private static void promises12To15() {
        B.sentence("What of THE APPRENTICE 0 AT, 1 KNOWS, 2 COINS, 3 FORGETS. BAD.", () -> B.bounds("apprentice", 0, 0, 3, 0));
        B.sentence("COINS (what 2), FORGETS (3) becomes v: what it was. BAD.", () -> {
            B.bounds("has", 0, 2, 3, 2, 50);
            B.refuses(BAD, "has", 0, 0);
            B.refuses(BAD, "has", FORGETS, 100);
            B.refuses(BAD, "has", COINS, 10000);
            Played p = Rich.made();
            B.is(380, p, "has", COINS, 100);
            B.is(61, p, "has", FORGETS, 1);
            B.is(100, p, "apprentice", COINS);
            B.is(1, p, "apprentice", FORGETS);
        });
        B.sentence("Of a GESTURE that it KNOWS: what 0 FROM, 1 REST. BAD; NO: it does not.", () -> {
            B.bounds("knows", 1, 0, 1, 0, 0);
            B.refuses(NO, "knows", 9, 0);
            B.refuses(NO, "knows", 9, 1);
            B.refuses(BAD, "knows", 9, 2);
            B.refuses(BAD, "knows", 9, -1);
            B.refuses(BAD, "knows", 10, 0);
        });
        B.sentence("It GOES to a TOWN: THE DAY then. BAD: also where it is; NO: there is no ROAD.", () -> {
            B.refuses(BAD, "go", 1);
            B.refuses(BAD, "go", 6);
            B.refuses(BAD, "go", -1);
            B.refuses(NO, "go", 3);
            B.refuses(NO, "go", 5);
            B.refuses(NO, p -> p.call("road", 0, 1, 0), "go", 0);
            B.is(11 + 3, Rich.made(), "go", 0);
            B.is(11 + 1, Rich.made().then("road", 1, 0, 1), "go", 0);
        });
    }

    private static void promises16To18() {
        B.sentence("It LEARNS of a MASTER: what it KNOWS then. BAD; NO: it can't.", () -> {
            for (int m : new int[] {-1, Rich.MASTERS, 9, MIN, MAX}) {
                B.refuses(BAD, "learn", m);
            }
            B.refuses(NO, "learn", 6);
            B.is(1 | 1 << 4 | 1 << 5 | 1 << 7, Rich.made(), "learn", 7);
        });
        B.sentence("It USES a GESTURE: what it KNOWS then. BAD; NO: it does not KNOW it.", () -> {
            for (int g : new int[] {-1, 10, MIN, MAX}) {
                B.refuses(BAD, "use", g);
            }
            B.refuses(NO, "use", 9);
            B.refuses(NO, "use", 1);
            B.is(1 | 1 << 4 | 1 << 5, Rich.made(), "use", 0);
        });
        B.sentence("n (1 .. 100) DAYS go by: what it KNOWS then. BAD.", () -> {
            B.bounds("rests", 0, 1, 100, 1);
            B.is(1, new Played().then("rests", 1), "count", DAY);
            B.is(100, new Played().then("rests", 100), "count", DAY);
        });
    }
}
