/** Promises 19 to 31: chairs, what can be known. */
public final class ChairTest {
    private static final int BAD = NineMasters.BAD;
    private static final int NO = NineMasters.NO;
    private static final int FULL = NineMasters.FULL;
    private static final int NONE = NineMasters.NONE;
    private static final int MIN = Integer.MIN_VALUE;
    private static final int MAX = Integer.MAX_VALUE;
    private static final Due DUE = new Due("ChairTest");

    public static void main(String[] args) {
        wants();
        made();
        soonest();
        soonestTies();
        soonestEdges();
        together();
        togetherOfThree();
        never();
        last();
        years();
        gone();
        fresh();
        cut();
        fameAndFine();
        DUE.end();
    }

    private static void wants() {
        NineMasters x = new NineMasters();
        for (int g : new int[] {-1, 10, MIN, MAX}) {
            DUE.is("wrong wants", x.wants(g), BAD);
        }
        for (int i = 1; i <= 6; i++) {
            DUE.is("wants", x.wants(9), i);
        }
        DUE.is("a seventh", x.wants(0), FULL);
        DUE.is("a seventh, wrong", x.wants(10), BAD);
        DUE.is("six", x.count(4), 6);
        DUE.is("can not", x.count(5), 0);
        DUE.is("clear", x.clear(), 6);
        DUE.is("clear", x.clear(), 0);
        DUE.is("none", x.count(4), 0);
        DUE.is("can", x.count(5), 1);
    }

    private static void made() {
        NineMasters x = new NineMasters();
        DUE.is("a chair that wants none", x.made(), 0);
        x.master(5, 0, 0, 0);
        x.master(5, 0, 1, 0);
        x.learn(0);
        x.wants(0);
        x.wants(1);
        DUE.is("it can not", x.made(), NO);
        x.learn(1);
        x.wants(0);
        DUE.is("three days", x.made(), 5);
        DUE.is("rest of the last", x.knows(0, 1), 1);
        DUE.is("rest of the one before", x.knows(1, 1), 2);
        x.has(3, 2);
        x.clear();
        x.wants(0);
        x.wants(1);
        x.wants(0);
        DUE.is("the second is forgotten by then and left out", x.made(), 7);
        DUE.is("knows", x.apprentice(1), 1);
        DUE.is("no more", x.count(5), 0);
    }

    private static void soonest() {
        NineMasters x = new NineMasters();
        for (int what : new int[] {-1, 3, MIN, MAX}) {
            DUE.is("wrong soonest", x.soonest(what), BAD);
        }
        all(x, 0, 0, NONE);
        x.wants(0);
        all(x, NONE, NONE, NONE);
        x.master(1, 3, 0, 5);
        all(x, NONE, NONE, NONE);
        x.road(0, 2, 1);
        x.road(2, 3, 9);
        all(x, 16, 5, 0);
        x.master(0, 3, 0, 50);
        all(x, 13, 50, 1);
        x.has(2, 49);
        all(x, 16, 5, 0);
        x.set(0, 6, 1);
        all(x, NONE, NONE, NONE);
        x.has(2, 50);
        all(x, 13, 50, 1);
        DUE.is("nothing changed", x.count(2), 0);
        DUE.is("nothing paid", x.apprentice(2), 50);
    }

    private static void all(NineMasters x, int days, int coins, int which) {
        DUE.is("soonest(0)", x.soonest(0), days);
        DUE.is("soonest(1)", x.soonest(1), coins);
        DUE.is("soonest(2)", x.soonest(2), which);
    }

    private static void soonestTies() {
        NineMasters x = new NineMasters();
        x.wants(0);
        x.master(0, 0, 0, 9);
        x.master(0, 0, 0, 4);
        x.master(0, 0, 0, 4);
        all(x, 3, 4, 1);
        x.master(5, 0, 0, 99);
        all(x, 1, 99, 3);
        x.clear();
        x.wants(1);
        x.wants(2);
        x.master(5, 0, 2, 0);
        x.master(5, 0, 1, 0);
        all(x, 2, 0, 4);
    }

    private static void soonestEdges() {
        NineMasters x = new NineMasters();
        for (int g = 0; g < 6; g++) {
            x.master(5, 0, g, 1);
        }
        for (int g = 0; g < 4; g++) {
            x.wants(g);
        }
        all(x, 4, 4, 0);
        x.wants(4);
        all(x, NONE, NONE, NONE);
        x.learn(0);
        all(x, 4, 4, 1);
        x.wants(4);
        all(x, 4, 4, 1);
        x.has(3, 3);
        all(x, NONE, NONE, NONE);
        x.has(3, 4);
        all(x, 4, 4, 1);
        unwantedHelps();
        arrivalCounts();
    }

    /** A stern one asks for three, so what the chair does not want is learnt, too. */
    private static void unwantedHelps() {
        NineMasters x = new NineMasters();
        x.wants(9);
        x.master(3, 0, 9, 0);
        for (int g = 0; g < 3; g++) {
            all(x, NONE, NONE, NONE);
            x.master(5, 0, g, 10);
        }
        all(x, 3 + 2 * 6 + 4, 30, 1);
        x.has(2, 29);
        all(x, NONE, NONE, NONE);
    }

    /** What is forgotten on the road is not in the way of a master who bars it, and makes it no longer. */
    private static void arrivalCounts() {
        NineMasters x = new NineMasters();
        x.master(5, 0, 0, 0);
        x.master(0, 1, 1, 0);
        x.bars(1, 0, 0);
        x.road(0, 1, 5);
        x.learn(0);
        x.wants(1);
        all(x, NONE, NONE, NONE);
        x.has(3, 4);
        all(x, 5 + 3, 0, 1);
    }

    private static void together() {
        NineMasters x = new NineMasters();
        for (int set : new int[] {-1, 1024, 15, 1023, MIN, MAX}) {
            DUE.is("wrong together", x.together(set), BAD);
        }
        DUE.is("of none", x.together(0), 1);
        x.master(0, 0, 0, 99);
        x.master(0, 5, 1, 99);
        x.has(2, 0);
        DUE.is("coins and towns do not count", x.together(3), 1);
        x.bars(0, 1, 1);
        DUE.is("in one order", x.together(3), 1);
        x.bars(1, 0, 0);
        DUE.is("in none", x.together(3), 0);
        x.turns(1, 4);
        DUE.is("mild", x.together(3), 1);
        x.turns(1, 2);
        DUE.is("a kind one unlearns", x.together(3), 0);
        x.turns(1, 5);
        DUE.is("sly", x.together(3), 1);
        x.set(1, 6, 1);
        DUE.is("dead", x.together(3), 0);
        DUE.is("one alone", x.together(1), 1);
        DUE.is("of a dead one", x.together(2), 0);
        x.master(3, 0, 2, 0);
        DUE.is("stern", x.together(4), 0);
        DUE.is("not taught", x.together(1 << 9), 0);
    }

    private static void togetherOfThree() {
        NineMasters x = new NineMasters();
        x.master(5, 0, 0, 0);
        x.master(0, 0, 1, 0);
        x.master(0, 0, 2, 0);
        x.bars(0, 1, 2);
        x.bars(1, 2, 2);
        x.bars(2, 3, 4);
        DUE.is("0 behind one of 1, 2", x.together(7), 1);
        x.bars(2, 1, 0);
        DUE.is("1 bars 2, 2 bars 1", x.together(7), 0);
        x.master(1, 0, 2, 0);
        DUE.is("another who teaches 2", x.together(7), 1);
        x.bars(3, 0, 1);
        DUE.is("that bars them, too", x.together(7), 0);
    }

    private static void never() {
        NineMasters x = new NineMasters();
        DUE.is("no masters", x.never(), NONE);
        x.master(3, 0, 9, 0);
        DUE.is("one gesture", x.never(), NONE);
        x.master(0, 0, 8, 0);
        DUE.is("8 and 9", x.never(), 89);
        x.master(0, 0, 3, 0);
        DUE.is("3 and 9", x.never(), 39);
        x.set(0, 6, 1);
        DUE.is("all can", x.never(), NONE);
        x.bars(1, 3, 3);
        DUE.is("3 first", x.never(), NONE);
        x.bars(2, 8, 8);
        DUE.is("3 and 8", x.never(), 38);
    }

    private static void last() {
        NineMasters x = new NineMasters();
        x.master(0, 0, 4, 0);
        x.master(0, 0, 4, 0);
        DUE.is("two", x.last(4), NONE);
        x.set(0, 6, 1);
        DUE.is("one", x.last(4), 1);
        x.set(1, 6, 1);
        DUE.is("none", x.last(4), NONE);
        DUE.is("never was", x.last(5), NONE);
        for (int g : new int[] {-1, 10, MIN, MAX}) {
            DUE.is("wrong last", x.last(g), BAD);
        }
    }

    private static void years() {
        NineMasters x = new NineMasters();
        for (int n : new int[] {0, -1, 61, MIN, MAX}) {
            DUE.is("wrong years", x.years(n), BAD);
        }
        x.master(0, 0, 0, 0);
        x.master(0, 0, 1, 0);
        x.master(0, 0, 2, 0);
        x.set(1, 5, 99);
        x.set(2, 6, 1);
        x.seed(77);
        int[] age = {40, 99, 40};
        boolean[] dead = {false, false, true};
        int z = 77;
        for (int n : new int[] {1, 2, 12, 60, 60}) {
            int died = 0;
            for (int year = 0; year < n; year++) {
                for (int m = 0; m < 3; m++) {
                    if (!dead[m]) {
                        z = z * 1103515245 + 12345;
                        dead[m] = (z >>> 8) % 100 < age[m] - 50;
                        died += dead[m] ? 1 : 0;
                        age[m] = dead[m] ? age[m] : Math.min(99, age[m] + 1);
                    }
                }
            }
            DUE.is("years", x.years(n), died);
            for (int m = 0; m < 3; m++) {
                DUE.is("age", x.told(m, 5), age[m]);
                DUE.is("dead", x.told(m, 6), dead[m] ? 1 : 0);
            }
            DUE.is("z", x.count(9), z);
        }
    }

    private static void gone() {
        for (int seed = 0; seed < 40; seed++) {
            NineMasters x = new NineMasters();
            for (int n : new int[] {-1, 61, MIN, MAX}) {
                DUE.is("wrong gone", x.gone(n), BAD);
            }
            x.seed(seed);
            x.deal(9);
            for (int m = 0; m < 9; m++) {
                x.set(m, 5, 40 + 6 * m);
            }
            x.set(0, 6, 1);
            int now = taught(x);
            DUE.is("gone(0)", x.gone(0), 0);
            int z = x.count(9);
            int thought = x.gone(seed);
            DUE.is("z as it was", x.count(9), z);
            DUE.is("one dead as before", x.count(1), 1);
            if (seed > 0) {
                x.years(seed);
            }
            DUE.is("gone", thought, Integer.bitCount(now & ~taught(x)));
        }
    }

    private static int taught(NineMasters x) {
        int set = 0;
        for (int m = 0; m < x.count(0); m++) {
            set |= x.told(m, 6) == 1 ? 0 : 1 << x.told(m, 2);
        }
        return set;
    }

    private static void fresh() {
        NineMasters x = new NineMasters();
        DUE.is("no masters", x.fresh(), 0);
        x.master(0, 4, 0, 0);
        DUE.is("where it is", x.fresh(), 4);
        x.master(0, 1, 0, 0);
        DUE.is("of two that lie apart the least", x.fresh(), 1);
        x.road(1, 2, 1);
        x.road(2, 4, 1);
        DUE.is("all on the way are alike", x.fresh(), 1);
        x.master(0, 2, 0, 0);
        DUE.is("between", x.fresh(), 2);
        x.set(1, 6, 1);
        x.set(2, 6, 1);
        DUE.is("dead ones do not count", x.fresh(), 4);
        x.set(0, 6, 1);
        DUE.is("all dead", x.fresh(), 0);
    }

    private static void cut() {
        NineMasters x = new NineMasters();
        int[][] wrong = {{-1, 0}, {4, 0}, {0, -1}, {0, 2}, {MIN, MAX}};
        for (int[] w : wrong) {
            DUE.is("wrong cut", x.cut(w[0], w[1]), BAD);
        }
        DUE.is("missing", x.cut(0, 0), NineMasters.NOTHING);
        x.sheet(0, 1, 3);
        DUE.is("no masters", x.cut(0, 0), NONE);
        DUE.is("no masters", x.cut(0, 1), NONE);
        x.master(0, 0, 0, 0);
        x.master(1, 0, 0, 0);
        x.master(1, 0, 0, 0);
        x.set(1, 6, 1);
        DUE.is("0 less 3, 4, 5", x.cut(0, 1), 12);
        x.mark(0, 0, 7);
        x.mark(0, 1, 7);
        x.mark(0, 2, 10);
        DUE.is("6, 8, 10, dead as it is", x.cut(0, 0), 1);
        DUE.is("together", x.cut(0, 1), 2);
        x.mark(0, 1, NONE);
        DUE.is("without one place", x.cut(0, 1), 1);
        DUE.is("k stays", x.cut(0, 0), 1);
        x.mark(0, 0, -99999);
        DUE.is("far off", x.cut(0, 1), 99999 + 6);
        x.sheet(1, 0, 0);
        DUE.is("no places", x.cut(1, 0), 0);
        DUE.is("no places", x.cut(1, 1), 0);
    }

    private static void fameAndFine() {
        NineMasters x = new NineMasters();
        x.master(0, 0, 0, 33);
        DUE.is("fame is the fee", x.fame(0), 33);
        for (int m : new int[] {-1, 1, MIN, MAX}) {
            DUE.is("wrong fame", x.fame(m), BAD);
        }
        DUE.is("fine is the coins", x.fine(), 100);
        Fed.text(x, "fame f * 1000 - a", true);
        Fed.text(x, "fine c * 10 + d", true);
        x.rests(7);
        DUE.is("fame by a text", x.fame(0), 32960);
        DUE.is("fine by a text", x.fine(), 1007);
    }
}
