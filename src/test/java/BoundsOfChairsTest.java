import java.util.function.Consumer;

/** The bounds of the document's part 3 and of promises 19 to 31, sentence by sentence. */
public final class BoundsOfChairsTest {
    private static final int BAD = Bounds.BAD;
    private static final int NO = Bounds.NO;
    private static final int NONE = Bounds.NONE;
    private static final int MIN = Bounds.MIN;
    private static final int MAX = Bounds.MAX;
    private static final int MASTER = 0;
    private static final int STRICT = 1;
    private static final int KINDLY = 2;
    private static final int STERN = 3;
    private static final int MILD = 4;
    private static final int SLY = 5;
    private static final Bounds B = new Bounds("BoundsOfChairsTest");

    public static void main(String[] args) {
        chairs();
        soonest();
        together();
        yearsToCome();
        newAndCut();
        promises19To25();
        promises26To31();
        B.end();
    }

    private static void chairs() {
        B.sentence("A CHAIR wants up to 6 GESTURES (none at first), one behind the other.", () -> {
            Played p = new Played();
            B.is(0, p, "count", 4);
            for (int i = 1; i <= 6; i++) {
                B.is(i, p, "wants", 0);
            }
            B.is(Bounds.FULL, p, "wants", 0);
            B.is(6, p, "count", 4);
            inOrder();
        });
        B.sentence("CAN: whether it KNOWS all of them.", () -> {
            Played p = new Played().master(SLY, 0).master(SLY, 9);
            B.is(1, p, "count", 5);
            B.is(0, p.then("wants", 0).then("wants", 9), "count", 5);
            B.is(0, p.then("learn", 0), "count", 5);
            B.is(1, p.then("learn", 1), "count", 5);
            B.is(0, p.then("has", 3, 1).then("rests", 1), "count", 5);
            Played six = new Played().master(SLY, 0).master(SLY, 9).then("learn", 0).times(5, "wants", 0);
            B.is(1, six, "count", 5);
            B.is(0, six.then("wants", 9), "count", 5);
            B.is(NO, six, "made");
            soonestIs(six, 1, 0, 1);
            B.is(1, six.then("learn", 1), "count", 5);
        });
        B.sentence("MADE (CAN): each is USED, one behind the other (one that it KNOWS no more by then is left out).", () -> {
            B.is(0, new Played(), "made");
            B.is(2 + 6, fiveTimesThenAnother(0), "made");
            B.is(2 + 6, fiveTimesThenAnother(5), "made");
            B.is(2 + 5, fiveTimesThenAnother(4), "made");
            B.is(1, fiveTimesThenAnother(4).then("made"), "apprentice", 1);
        });
        B.sentence("FAR of two TOWNS: the fewest days by ROADS (0 to itself).", BoundsOfChairsTest::far);
    }

    /** REST tells in which order they were used. */
    private static void inOrder() {
        Played p = new Played().master(SLY, 0).master(SLY, 1).then("learn", 0).then("learn", 1);
        p.then("wants", 1).then("wants", 0).then("wants", 1).then("wants", 1).then("wants", 0).then("wants", 0);
        B.is(8, p, "made");
        B.is(1, p, "knows", 0, 1);
        B.is(3, p, "knows", 1, 1);
    }

    /** Five times 0 and then 9, which has rested for 5 days by then. */
    private static Played fiveTimesThenAnother(int forgets) {
        Played p = new Played().master(SLY, 0).master(SLY, 9).then("learn", 0).then("learn", 1);
        return p.times(5, "wants", 0).then("wants", 9).then("has", 3, forgets);
    }

    private static void far() {
        Played p = new Played();
        for (int town = 0; town < 6; town++) {
            B.is(0, p, "far", town, town);
        }
        for (int town = 0; town < 5; town++) {
            p.call("road", town, town + 1, 9);
        }
        B.is(45, p, "far", 0, 5);
        B.is(45, p, "far", 5, 0);
        p.then("road", 0, 2, 8);
        B.is(35, p, "far", 0, 5);
        B.is(9, p, "far", 0, 1);
        p.then("road", 0, 1, 0);
        B.is(17, p, "far", 0, 1);
        p.then("road", 1, 2, 0);
        B.is(NONE, p, "far", 0, 1);
        overEachTown();
    }

    private static void overEachTown() {
        for (int over = 0; over < 6; over++) {
            int one = (over + 1) % 6;
            int other = (over + 2) % 6;
            Played p = new Played().then("road", one, over, 4).then("road", over, other, 5);
            B.is(9, p, "far", one, other);
            B.is(9, p, "far", other, one);
            B.is(9, p.then("road", one, other, 9), "far", one, other);
            B.is(8, p.then("road", one, other, 8), "far", one, other);
            B.is(8, p, "far", other, one);
        }
    }

    private static void soonest() {
        B.sentence("SOONEST: the fewest days, from now on, after which it CAN make THE CHAIR", () -> {
            for (int day : new int[] {0, 50, 9998, 9999}) {
                Played p = new Played().then("wants", 0).master(STRICT, 0).restUntil(day);
                soonestIs(p, 6, 0, 0);
                soonestIs(p.then("learn", 0), 0, 0, NONE);
            }
            Played changing = new Played().then("wants", 0).master(MASTER, 0);
            soonestIs(changing, 3, 0, 0);
            soonestIs(changing.then("turns", 0, STRICT), 6, 0, 0);
            changing.text("term 99");
            soonestIs(changing, 198, 0, 0);
            soonestIs(changing.then("turns", 0, SLY).then("set", 0, 4, 9), 1, 9, 0);
            Played order = new Played().then("wants", 0).then("wants", 1).master(MASTER, 0).master(STRICT, 1);
            soonestIs(order, 6 + 4, 0, 1);
        });
        B.sentence("if it goes by FAR to a MASTER and LEARNS there, again and again (4 times at most, each as told above, COINS too, nothing else done)",
                () -> {
                    fourTimes();
                    coinsToo();
                    byFar();
                });
        B.sentence("FORGETTING counts.", BoundsOfChairsTest::forgettingCounts);
        B.sentence("Of several of so many days: that with the fewest COINS paid. WHICH: the first MASTER of that, of several the least.",
                BoundsOfChairsTest::ties);
    }

    private static void fourTimes() {
        for (int many = 0; many <= 6; many++) {
            Played p = new Played();
            for (int g = 0; g < 6; g++) {
                p.then("master", SLY, 0, g, 7);
            }
            for (int g = 0; g < many; g++) {
                p.call("wants", g);
            }
            soonestIs(p, many > 4 ? NONE : many, many > 4 ? NONE : 7 * many, many > 4 || many == 0 ? NONE : 0);
        }
        Played stern = new Played().then("wants", 9).master(STERN, 9).master(SLY, 0).master(SLY, 1);
        soonestIs(stern, NONE, NONE, NONE);
        soonestIs(stern.master(SLY, 2), 3 + 2 * 6 + 4, 0, 1);
    }

    private static void soonestIs(Played p, int days, int coins, int which) {
        B.is(days, p, "soonest", 0);
        B.is(coins, p, "soonest", 1);
        B.is(which, p, "soonest", 2);
    }

    private static void coinsToo() {
        Played p = new Played().then("wants", 0).then("wants", 1);
        p.then("master", SLY, 0, 0, 60).then("master", SLY, 0, 1, 40);
        soonestIs(p, 2, 100, 0);
        soonestIs(p.then("has", 2, 99), NONE, NONE, NONE);
        soonestIs(p.then("has", 2, 9999), 2, 100, 0);
        soonestIs(p.then("has", 2, 0), NONE, NONE, NONE);
        B.is(0, p, "apprentice", 2);
    }

    private static void byFar() {
        Played p = new Played().then("wants", 0).then("master", SLY, 5, 0, 0);
        soonestIs(p, NONE, NONE, NONE);
        for (int town = 0; town < 5; town++) {
            p.call("road", town, town + 1, 9);
        }
        soonestIs(p, 46, 0, 0);
        soonestIs(p.then("road", 0, 2, 9), 37, 0, 0);
        soonestIs(p.then("road", 0, 2, 0), 46, 0, 0);
        Played round = new Played().then("wants", 0).then("master", SLY, 5, 0, 0).then("road", 0, 5, 9);
        soonestIs(round, 10, 0, 0);
        soonestIs(round.then("road", 0, 4, 4).then("road", 4, 5, 4), 9, 0, 0);
        soonestIs(p.then("set", 0, 6, 1), NONE, NONE, NONE);
        soonestIs(p.then("set", 0, 6, 0).then("road", 5, 4, 0), NONE, NONE, NONE);
        B.is(0, p, "count", 2);
        B.is(0, p, "apprentice", 0);
        Played away = new Played().then("wants", 0).then("road", 0, 5, 4).then("master", SLY, 5, 0, 0);
        soonestIs(away, 5, 0, 0);
        soonestIs(away.then("go", 5), 1, 0, 0);
        Played there = new Played().then("wants", 0).then("road", 0, 5, 4).master(SLY, 0).then("go", 5);
        soonestIs(there, 5, 0, 0);
    }

    /** The first of four rests for three days, and five on a road, until the last has come. */
    private static void forgettingCounts() {
        Played p = new Played();
        for (int g = 0; g < 4; g++) {
            p.master(SLY, g).then("wants", g);
        }
        soonestIs(p.then("has", 3, 3), 4, 0, 0);
        soonestIs(p.then("has", 3, 2), NONE, NONE, NONE);
        Played road = new Played().master(SLY, 0).then("master", SLY, 1, 1, 0).then("road", 0, 1, 5);
        road.then("wants", 0).then("wants", 1);
        soonestIs(road.then("has", 3, 6), 7, 0, 0);
        soonestIs(road.then("has", 3, 5), NONE, NONE, NONE);
        soonestIs(road.then("has", 3, 0), 7, 0, 0);
        Played known = new Played().master(SLY, 0).master(SLY, 1).then("learn", 0).then("wants", 0).then("wants", 1);
        soonestIs(known.then("has", 3, 1), 1, 0, 1);
        soonestIs(known.then("rests", 1), 2, 0, 1);
        for (int g = 0; g < 10; g++) {
            int other = (g + 1) % 10;
            Played rested = new Played().master(SLY, g).master(SLY, other).then("learn", 0).then("rests", 4).then("wants", g).then("wants", other);
            soonestIs(rested.then("has", 3, 5), 1, 0, 1);
            soonestIs(rested.then("has", 3, 4), 2, 0, 1);
        }
        forgottenOnTheRoad();
        eachWayByItself();
    }

    /** What is forgotten by the day of arrival is neither barred nor counted there. */
    private static void forgottenOnTheRoad() {
        Played p = new Played().master(SLY, 0).then("master", MASTER, 1, 1, 0).then("bars", 1, 0, 0);
        p.then("road", 0, 1, 5).then("learn", 0).then("wants", 1);
        soonestIs(p.then("has", 3, 5), NONE, NONE, NONE);
        soonestIs(p.then("has", 3, 4), 5 + 3, 0, 1);
        soonestIs(p.then("bars", 1, 8, 9), 5 + 3, 0, 1);
        soonestIs(p.then("has", 3, 5), 5 + 4, 0, 1);
        Played oneDay = new Played().master(SLY, 0).then("master", MASTER, 1, 1, 0).then("bars", 1, 0, 0);
        oneDay.then("road", 0, 1, 1).then("learn", 0).then("wants", 1).then("rests", 1);
        soonestIs(oneDay.then("has", 3, 2), NONE, NONE, NONE);
        soonestIs(oneDay.then("has", 3, 1), 1 + 3, 0, 1);
        noDayInTheSameTown();
    }

    /** There is no going to a MASTER in the same TOWN, as with learn: no day goes by ahead of the learning. */
    private static void noDayInTheSameTown() {
        Played p = new Played().master(SLY, 0).master(MASTER, 1).then("bars", 1, 0, 0).then("learn", 0).then("wants", 1);
        p.then("rests", 10).then("has", 3, 5);
        B.is(NO, p, "learn", 1);
        soonestIs(p, NONE, NONE, NONE);
        p.call("bars", 1, 8, 9);
        soonestIs(p, 4, 0, 1);
        B.is(2, p, "learn", 1);
        B.is(1 + 10 + 4, p, "count", 2);
    }

    /** On the way over TOWN 1 gesture 0 is learnt anew; on that right to TOWN 2 it is forgotten. */
    private static void eachWayByItself() {
        Played p = new Played().then("master", SLY, 1, 0, 0).then("master", SLY, 2, 1, 0).then("road", 0, 1, 2).then("road", 0, 2, 3);
        p.master(SLY, 0).then("learn", 2).then("set", 2, 6, 1).then("rests", 5);
        p.then("wants", 0).then("wants", 1).then("has", 3, 6);
        soonestIs(p, 2 + 1 + 5 + 1, 0, 0);
        soonestIs(p.then("has", 3, 5), NONE, NONE, NONE);
        soonestIs(p.then("has", 3, 9), 3 + 1, 0, 1);
        soonestIs(p.then("has", 3, 8), 3 + 1 + 5 + 1, 0, 1);
    }

    private static void ties() {
        Played p = new Played().then("wants", 0);
        p.then("master", MASTER, 0, 0, 9).then("master", MASTER, 0, 0, 8).then("master", MASTER, 0, 0, 8);
        soonestIs(p, 3, 8, 1);
        soonestIs(p.then("set", 2, 4, 7), 3, 7, 2);
        soonestIs(p.then("set", 0, 4, 7), 3, 7, 0);
        soonestIs(p.then("master", KINDLY, 0, 0, 99), 2, 99, 3);
        Played orders = new Played().then("wants", 0).then("wants", 1).then("master", SLY, 0, 1, 3).then("master", SLY, 0, 0, 3);
        soonestIs(orders, 2, 6, 0);
    }

    private static void together() {
        B.sentence("TOGETHER of a set of GESTURES (3 at most)", () -> {
            Played p = new Played().master(MASTER, 0).master(MASTER, 1).master(MASTER, 9).master(MASTER, 3);
            B.is(1, p, "together", 0);
            B.is(1, p, "together", 1);
            B.is(1, p, "together", 1 << 9);
            B.is(1, p, "together", 3);
            B.is(1, p, "together", 3 | 1 << 9);
            B.is(BAD, p, "together", 11 | 1 << 9);
        });
        B.sentence("whether there is an order of MASTERS that are not DEAD, one for each, by which one who KNOWS nothing could come to KNOW them all",
                BoundsOfChairsTest::orders);
        B.sentence("(COINS, DAYS, TOWNS do not count; no more than these are learnt)", () -> {
            Played p = new Played().then("master", STRICT, 0, 0, 99).then("master", STRICT, 5, 1, 99);
            p.then("has", 2, 0).then("has", 3, 1);
            B.is(1, p, "together", 3);
            p.master(STERN, 2).master(SLY, 3).master(SLY, 4);
            B.is(0, p, "together", 4);
            B.is(0, p, "together", 7);
            B.is(1, p, "together", 3 | 1 << 4);
        });
        B.sentence("NEVER: of all two GESTURES that are taught by somebody not DEAD the first (the lesser one first) that are not TOGETHER.",
                BoundsOfChairsTest::never);
    }

    private static void orders() {
        Played p = new Played().master(MASTER, 0).master(MASTER, 1).master(MASTER, 2);
        p.then("bars", 0, 1, 2).then("bars", 1, 2, 2);
        B.is(1, p, "together", 7);
        p.call("bars", 2, 0, 0);
        B.is(0, p, "together", 7);
        B.is(0, p, "together", 5);
        B.is(1, p, "together", 3);
        p.call("turns", 2, MILD);
        B.is(1, p, "together", 7);
        p.call("turns", 2, KINDLY);
        B.is(0, p, "together", 7);
        p.call("turns", 2, SLY);
        B.is(1, p, "together", 7);
        p.call("set", 2, 6, 1);
        B.is(0, p, "together", 7);
        p.master(MASTER, 2);
        B.is(1, p, "together", 7);
        Played knowing = new Played().master(SLY, 0).then("learn", 0).then("set", 0, 6, 1);
        B.is(0, knowing, "together", 1);
    }

    private static void never() {
        Played p = new Played().master(MASTER, 9).master(MASTER, 8).then("bars", 0, 8, 8).then("bars", 1, 9, 9);
        B.is(89, p, "never");
        p.master(MASTER, 1).master(MASTER, 0).then("bars", 2, 9, 9);
        B.is(89, p, "never");
        p.call("bars", 3, 9, 1);
        B.is(89, p, "never");
        p.call("bars", 2, 0, 0);
        B.is(1, p, "never");
        p.call("set", 3, 6, 1);
        B.is(89, p, "never");
        p.call("bars", 0, 8, 1);
        B.is(89, p, "never");
        p.call("bars", 2, 9, 9);
        B.is(19, p, "never");
        p.call("set", 0, 6, 1);
        B.is(NONE, p, "never");
    }

    private static void yearsToCome() {
        B.sentence("LAST of a GESTURE: if there is just one MASTER not DEAD who teaches it, that one.", () -> {
            Played p = new Played();
            B.is(NONE, p, "last", 9);
            B.is(0, p.master(0, 9), "last", 9);
            B.is(NONE, p.master(0, 9), "last", 9);
            B.is(1, p.then("set", 0, 6, 1), "last", 9);
            B.is(NONE, p.then("set", 1, 6, 1), "last", 9);
            B.is(0, p.then("set", 0, 6, 0), "last", 9);
        });
        B.sentence("GONE BEHIND n YEARS (only thought, z as it is): how many GESTURES that are taught now nobody teaches then.",
                BoundsOfChairsTest::gone);
    }

    /** Of nine ones of 99 some die in a year; what gone thinks is what years does then. */
    private static void gone() {
        for (int n : new int[] {0, 1, 2, 59, 60}) {
            Played p = new Played().then("seed", n);
            for (int m = 0; m < 9; m++) {
                p.master(0, m / 2).then("set", m, 5, 99 - m);
            }
            p.call("set", 8, 6, 1);
            int now = taught(p);
            int[] before = Seen.ages(p);
            int thought = p.call("gone", n);
            B.is(n, p, "count", 9);
            B.is(1, p, "count", 1);
            B.holds("ages stay", java.util.Arrays.equals(before, Seen.ages(p)));
            if (n > 0) {
                p.call("years", n);
            }
            B.holds("gone behind " + n, thought == Integer.bitCount(now & ~taught(p)));
        }
        Played young = new Played().master(0, 3);
        B.is(0, young, "gone", 10);
        B.is(1, young.then("set", 0, 5, 99), "gone", 60);
        B.is(0, young.then("set", 0, 6, 1), "gone", 60);
    }

    private static int taught(Played p) {
        int set = 0;
        for (int m = 0; m < p.call("count", 0); m++) {
            set |= p.call("told", m, 6) == 1 ? 0 : 1 << p.call("told", m, 2);
        }
        return set;
    }

    private static void newAndCut() {
        B.sentence("NEW: the TOWN 0 .. 5 from which the sum of FAR to all MASTERS that are not DEAD is least (9999 for one to which there is no way); of several the least.",
                BoundsOfChairsTest::fresh);
        B.sentence("CUT by a SHEET: the MASTER (DEAD ones, too) whose TAKES for k GESTURES and places k that are numbers (k from 0 on) differ least (signs left out), together; of several the least.",
                BoundsOfChairsTest::cut);
    }

    private static void fresh() {
        B.is(0, new Played(), "fresh");
        for (int town = 0; town < 6; town++) {
            Played p = new Played().then("master", 0, town, 0, 0);
            B.is(town, p, "fresh");
            B.is(0, p.then("set", 0, 6, 1), "fresh");
        }
        Played apart = new Played().then("master", 0, 5, 0, 0).then("master", 0, 4, 0, 0);
        B.is(4, apart, "fresh");
        B.is(5, apart.then("master", 0, 5, 0, 0), "fresh");
        Played row = new Played();
        for (int town = 0; town < 5; town++) {
            row.call("road", town, town + 1, 9);
        }
        row.then("master", 0, 5, 0, 0).then("master", 0, 1, 0, 0);
        B.is(1, row, "fresh");
        B.is(3, row.then("master", 0, 3, 0, 0), "fresh");
        B.is(1, row.then("road", 4, 5, 0), "fresh");
    }

    private static void cut() {
        Played p = new Played().master(MASTER, 0).master(STRICT, 0).master(STRICT, 0).master(SLY, 0);
        p.then("set", 1, 6, 1).then("sheet", 0, 1, 24);
        for (int k = 0; k < 24; k++) {
            p.call("mark", 0, k, 6 + 2 * k);
        }
        B.is(1, p, "cut", 0, 0);
        B.is(0, p, "cut", 0, 1);
        p.then("mark", 0, 0, 99999).then("mark", 0, 23, -99999);
        B.is(99999 - 6 + 99999 + 6 + 46, p, "cut", 0, 1);
        p.then("mark", 0, 0, NONE).then("mark", 0, 23, NONE);
        B.is(0, p, "cut", 0, 1);
        for (int k = 0; k < 24; k++) {
            p.call("mark", 0, k, NONE);
        }
        B.is(0, p, "cut", 0, 0);
        B.is(0, p, "cut", 0, 1);
        p.call("sheet", 0, 0, 0);
        B.is(0, p, "cut", 0, 0);
        p.then("sheet", 0, 0, 1).then("mark", 0, 0, 2);
        B.is(0, p, "cut", 0, 0);
        B.is(1, p, "cut", 0, 1);
        p.call("mark", 0, 0, 1);
        B.is(3, p, "cut", 0, 0);
        cutOfNine();
        cutByTerm();
    }

    private static void cutOfNine() {
        Played p = new Played().times(8, "master", STRICT, 0, 0, 0).then("sheet", 3, 0, 1).then("mark", 3, 0, 1);
        B.is(0, p, "cut", 3, 0);
        B.is(8, p.master(SLY, 0), "cut", 3, 0);
        B.is(0, p, "cut", 3, 1);
    }

    /** Places that are no numbers are left out by themselves, and TAKES is by the TEXT that counts now. */
    private static void cutByTerm() {
        Played p = new Played().then("keep").master(MASTER, 0).then("sheet", 0, 1, 3);
        p.text("term 10*k+5");
        B.is(5 + 15 + 25, p, "cut", 0, 1);
        B.is(15 + 25, p.then("mark", 0, 0, NONE), "cut", 0, 1);
        B.is(15, p.then("mark", 0, 2, NONE), "cut", 0, 1);
        B.is(5 + 15, p.then("mark", 0, 0, 0), "cut", 0, 1);
    }

    private static void promises19To25() {
        Consumer<Played> six = p -> p.times(2, "wants", 9);
        B.sentence("THE CHAIR wants one more GESTURE: how many. BAD; FULL.", () -> {
            B.is(5, Rich.made(), "wants", 9);
            B.is(6, Rich.made().then("wants", 9), "wants", 9);
            B.refuses(Bounds.FULL, six, "wants", 0);
            B.refuses(Bounds.FULL, six, "wants", 9);
            for (int g : new int[] {-1, 10, MIN, MAX}) {
                B.refuses(BAD, "wants", g);
                B.refuses(BAD, six, "wants", g);
            }
        });
        B.sentence("THE CHAIR wants none: how many it wanted.", () -> {
            B.is(0, new Played(), "clear");
            Played p = new Played().times(7, "wants", 0);
            B.is(6, p, "clear");
            B.is(0, p, "count", 4);
            B.is(0, p, "clear");
        });
        B.sentence("THE CHAIR is MADE: THE DAY then. NO: it CAN not.", () -> {
            B.refuses(NO, p -> p.call("wants", 9), "made");
            B.refuses(NO, p -> p.then("clear").then("wants", 1), "made");
            B.is(11 + 4, Rich.made(), "made");
            B.is(11, Rich.made().then("clear"), "made");
        });
        B.sentence("SOONEST: what 0 days, 1 COINS paid, 2 WHICH (NONE: it CAN now). BAD; NONE: there is no such way.", () -> {
            B.bounds("soonest", 0, 0, 2, 0);
            B.refuses(NONE, "soonest", 2);
            soonestIs(Rich.made(), 0, 0, NONE);
            Consumer<Played> noWay = p -> p.call("wants", 9);
            for (int what = 0; what < 3; what++) {
                B.refuses(NONE, noWay, "soonest", what);
            }
            B.refuses(BAD, noWay, "soonest", 3);
            B.refuses(BAD, noWay, "soonest", -1);
        });
        B.sentence("TOGETHER of a set (0 .. 1023): 1, 0. BAD: also of more than 3.", () -> {
            for (int set : new int[] {-1, 1024, 1025, MIN, MAX, 15, 1023, 1 << 9 | 7, 0x3c0}) {
                B.refuses(BAD, "together", set);
            }
            B.is(1, Rich.made(), "together", 0);
            B.is(0, Rich.made(), "together", 1 << 9 | 1 << 8 | 1 << 7);
        });
        B.sentence("NEVER: 10 times the lesser one, and the other. NONE: there are none.", () -> {
            B.is(NONE, new Played(), "never");
            B.is(NONE, new Played().master(STERN, 0), "never");
            B.is(1, new Played().master(STERN, 0).master(MASTER, 1), "never");
            B.is(9, new Played().master(STERN, 0).master(MASTER, 9), "never");
            B.is(89, new Played().master(STERN, 8).master(MASTER, 9), "never");
        });
        B.sentence("LAST of a GESTURE. BAD; NONE: there is not just one.", () -> {
            B.refuses(NONE, "last", 9);
            B.refuses(NONE, "last", 6);
            B.refuses(NONE, p -> p.call("master", 0, 0, 0, 0), "last", 0);
            B.refuses(BAD, "last", 10);
            B.refuses(BAD, "last", -1);
            B.is(0, Rich.made(), "last", 0);
        });
    }

    private static void promises26To31() {
        B.sentence("n (1 .. 60) YEARS of the guild: how many died in them. BAD.", () -> {
            B.bounds("years", 0, 1, 60, 1);
            Played p = new Played().master(0, 0).master(0, 1).then("set", 1, 6, 1);
            B.is(1, p, "years", 60);
            B.is(0, p, "years", 60);
            B.is(41, new Played().master(0, 0).then("years", 1), "told", 0, 5);
        });
        B.sentence("GONE BEHIND n (0 .. 60) YEARS. BAD.", () -> {
            B.bounds("gone", 0, 0, 60, 0);
            B.is(0, Rich.made(), "gone", 0);
        });
        B.sentence("CUT by a SHEET: what 0 the MASTER, 1 the differences, together. BAD; NOTHING; NONE: there are no MASTERS.",
                BoundsOfChairsTest::cutRefused);
        B.sentence("What fame gives for a MASTER. BAD.", () -> {
            B.bounds("fame", 0, 0, Rich.MASTERS - 1, 0);
            B.is(2045, Rich.made(), "fame", 1);
            B.is(7090, Rich.made(), "fame", 6);
            B.is(99, new Played().then("master", 0, 0, 0, 99), "fame", 0);
        });
        B.sentence("What fine gives.", () -> {
            B.is(100, new Played(), "fine");
            B.is(9999, new Played().then("has", 2, 9999), "fine");
            B.is(0, new Played().then("has", 2, 0), "fine");
            B.is(380 + 11, Rich.made(), "fine");
        });
    }

    private static void cutRefused() {
        B.bounds("cut", 0, 0, 3, 0, 0);
        B.bounds("cut", 1, 0, 1, 0, 0);
        B.refuses(Bounds.NOTHING, "cut", Rich.MISSING, 0);
        B.refuses(Bounds.NOTHING, "cut", Rich.MISSING, 1);
        B.refuses(BAD, "cut", Rich.MISSING, 2);
        B.refuses(BAD, "cut", 4, 0);
        Played p = new Played();
        B.is(Bounds.NOTHING, p, "cut", 0, 0);
        p.call("sheet", 0, 0, 3);
        B.is(NONE, p, "cut", 0, 0);
        B.is(NONE, p, "cut", 0, 1);
        B.is(BAD, p, "cut", 0, 2);
        B.is(Bounds.NOTHING, p, "cut", 1, 1);
        B.is(0, p.master(SLY, 0), "cut", 0, 0);
    }
}
