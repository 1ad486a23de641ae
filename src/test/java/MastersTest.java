/** Promises 1 to 11: a new object, masters, roads, lots. */
public final class MastersTest {
    private static final int BAD = NineMasters.BAD;
    private static final int FULL = NineMasters.FULL;
    private static final int NONE = NineMasters.NONE;
    private static final int KIND = NineMasters.KIND;
    private static final int MIN = Integer.MIN_VALUE;
    private static final int MAX = Integer.MAX_VALUE;
    private static final Due DUE = new Due("MastersTest");

    public static void main(String[] args) {
        newObject();
        master();
        told();
        tellsOfTheApprentice();
        as();
        turns();
        set();
        bars();
        road();
        far();
        deal();
        seed();
        DUE.end();
    }

    private static void newObject() {
        NineMasters x = new NineMasters();
        int[] counts = {0, 0, 0, 0, 0, 1, 0, 0, 0, 1};
        for (int i = 0; i < counts.length; i++) {
            DUE.is("count(" + i + ")", x.count(i), counts[i]);
        }
        int[] apprentice = {0, 0, 100, 0};
        for (int i = 0; i < apprentice.length; i++) {
            DUE.is("apprentice(" + i + ")", x.apprentice(i), apprentice[i]);
        }
        for (int i = 0; i < 6; i++) {
            for (int j = 0; j < 6; j++) {
                DUE.is("far", x.far(i, j), i == j ? 0 : NONE);
            }
        }
        for (int i = 0; i < 4; i++) {
            DUE.is("reads of a sheet that is missing", x.reads(i), NineMasters.NOTHING);
        }
        for (int i = 0; i < 5; i++) {
            DUE.is("ask of an empty slot", x.ask(i, 0), NineMasters.NOTHING);
        }
        for (int i = 0; i < 3; i++) {
            DUE.is("why", x.why(i), NONE);
        }
        DUE.is("back()", x.back(), NineMasters.NO);
        DUE.is("told(0, 0)", x.told(0, 0), BAD);
    }

    private static void master() {
        NineMasters x = new NineMasters();
        int[][] wrong = {{-1, 0, 0, 0}, {6, 0, 0, 0}, {0, -1, 0, 0}, {0, 6, 0, 0}, {0, 0, -1, 0}, {0, 0, 10, 0},
            {0, 0, 0, -1}, {0, 0, 0, 100}, {MIN, 0, 0, 0}, {0, MAX, 0, 0}, {0, 0, MIN, 0}, {0, 0, 0, MAX}};
        for (int[] w : wrong) {
            DUE.is("wrong master", x.master(w[0], w[1], w[2], w[3]), BAD);
        }
        DUE.is("none came", x.count(0), 0);
        for (int i = 0; i < 9; i++) {
            DUE.is("master", x.master(i % 6, i % 6, i, 99 - i), i);
        }
        DUE.is("a tenth", x.master(0, 0, 0, 0), FULL);
        DUE.is("a tenth, wrong", x.master(6, 0, 0, 0), BAD);
        DUE.is("nine stay", x.count(0), 9);
        for (int i = 0; i < 9; i++) {
            int[] dues = {i % 6, i % 6, i, 0, 99 - i, 40, 0};
            for (int what = 0; what < dues.length; what++) {
                DUE.is("told(" + i + ", " + what + ")", x.told(i, what), dues[what]);
            }
        }
    }

    private static void told() {
        NineMasters x = new NineMasters();
        for (int kind = 0; kind < 6; kind++) {
            x.master(kind, 0, kind, 20);
            x.set(kind, 5, 79);
        }
        int[] takes = {3, 6, 2, 13, 1, 1};
        int[] worth = {20, 31, 79, 62, 75, 8};
        for (int kind = 0; kind < 6; kind++) {
            DUE.is("takes of " + kind, x.told(kind, 7), takes[kind]);
            DUE.is("teaches of " + kind, x.told(kind, 8), kind == 3 ? 0 : 1);
            DUE.is("worth of " + kind, x.told(kind, 9), worth[kind]);
        }
        int[][] wrong = {{-1, 0}, {6, 0}, {9, 0}, {MIN, 0}, {MAX, 0}, {0, -1}, {0, 10}, {0, MIN}, {0, MAX}, {6, 10}};
        for (int[] w : wrong) {
            DUE.is("wrong told", x.told(w[0], w[1]), BAD);
        }
        x.set(0, 6, 1);
        DUE.is("a dead one teaches", x.told(0, 8), 1);
        x.set(4, 4, 99);
        DUE.is("worth of a mild one may be below 0", x.told(4, 9), -4);
    }

    /** What a master takes and whether it teaches, for one who knows 0 .. 3. */
    private static void tellsOfTheApprentice() {
        NineMasters x = new NineMasters();
        for (int g = 0; g < 4; g++) {
            x.master(4, 0, g, 0);
        }
        for (int kind : new int[] {0, 1, 2, 3, 5}) {
            x.master(kind, 0, 9, 0);
        }
        for (int m = 4; m < 9; m++) {
            x.bars(m, 0, 3);
        }
        int[][] teaches = {{1, 1, 1, 0, 1}, {0, 0, 1, 0, 1}, {0, 0, 1, 0, 1}, {0, 0, 1, 0, 1}, {0, 0, 1, 0, 0}};
        for (int k = 0; k <= 4; k++) {
            int[] takes = {3 + k, 6 + 2 * k, 2 + k, 10 + 2 * k, 1};
            for (int m = 4; m < 9; m++) {
                DUE.is("takes of " + m + " for " + k, x.told(m, 7), takes[m - 4]);
                DUE.is("teaches of " + m + " for " + k, x.told(m, 8), teaches[k][m - 4]);
            }
            DUE.is("takes of a mild one", x.told(0, 7), Math.max(1, (2 + k) / 2));
            if (k < 4) {
                x.learn(k);
            }
        }
        x.bars(7, 8, 8);
        DUE.is("a stern one teaches one with four", x.told(7, 8), 1);
    }

    private static void as() {
        NineMasters x = new NineMasters();
        int[][] under = {{0}, {1, 0}, {2, 0}, {3, 1, 0}, {4, 2, 0}, {5, 0}};
        for (int kind = 0; kind < 6; kind++) {
            x.master(kind, 0, 0, 10 + kind);
            for (int asked = 0; asked < 6; asked++) {
                boolean isOf = false;
                for (int u : under[kind]) {
                    isOf |= u == asked;
                }
                DUE.is("as(" + kind + ", " + asked + ")", x.as(kind, asked), isOf ? 10 + kind : KIND);
            }
        }
        int[][] wrong = {{-1, 0}, {6, 0}, {0, -1}, {0, 6}, {MIN, MAX}};
        for (int[] w : wrong) {
            DUE.is("wrong as", x.as(w[0], w[1]), BAD);
        }
    }

    private static void turns() {
        NineMasters x = new NineMasters();
        x.master(3, 0, 0, 7);
        DUE.is("turns", x.turns(0, 5), 3);
        DUE.is("turns to the same", x.turns(0, 5), 5);
        DUE.is("it is", x.told(0, 0), 5);
        DUE.is("worth by it", x.told(0, 9), 8);
        DUE.is("wrong kind", x.turns(0, 6), BAD);
        DUE.is("wrong kind", x.turns(0, -1), BAD);
        DUE.is("wrong master", x.turns(1, 0), BAD);
        DUE.is("wrong master", x.turns(-1, 0), BAD);
        DUE.is("it stays", x.told(0, 0), 5);
    }

    private static void set() {
        NineMasters x = new NineMasters();
        x.master(0, 0, 0, 7);
        DUE.is("fee", x.set(0, 4, 99), 7);
        DUE.is("fee", x.set(0, 4, 0), 99);
        DUE.is("age", x.set(0, 5, 0), 40);
        DUE.is("age", x.set(0, 5, 99), 0);
        DUE.is("dead", x.set(0, 6, 1), 0);
        DUE.is("dead", x.set(0, 6, 1), 1);
        DUE.is("not dead", x.set(0, 6, 0), 1);
        int[][] wrong = {{0, 4, -1}, {0, 4, 100}, {0, 5, -1}, {0, 5, 100}, {0, 6, 2}, {0, 6, -1}, {0, 3, 0}, {0, 7, 0},
            {0, 0, 0}, {0, -1, 0}, {1, 4, 0}, {-1, 4, 0}, {MIN, MAX, MIN}};
        for (int[] w : wrong) {
            DUE.is("wrong set", x.set(w[0], w[1], w[2]), BAD);
        }
        DUE.is("fee stays", x.told(0, 4), 0);
        DUE.is("age stays", x.told(0, 5), 99);
        DUE.is("dead stays", x.told(0, 6), 0);
    }

    private static void bars() {
        NineMasters x = new NineMasters();
        x.master(0, 0, 5, 0);
        DUE.is("two", x.bars(0, 0, 9), 0);
        DUE.is("one", x.bars(0, 3, 3), 1 | 1 << 9);
        DUE.is("told", x.told(0, 3), 8);
        int[][] wrong = {{0, 5, 1}, {0, 1, 5}, {0, 5, 5}, {0, -1, 0}, {0, 0, -1}, {0, 10, 0}, {0, 0, 10}, {1, 0, 1},
            {-1, 0, 1}, {0, MIN, MAX}};
        for (int[] w : wrong) {
            DUE.is("wrong bars", x.bars(w[0], w[1], w[2]), BAD);
        }
        DUE.is("they stay", x.told(0, 3), 8);
    }

    private static void road() {
        NineMasters x = new NineMasters();
        DUE.is("road", x.road(1, 4, 9), 0);
        DUE.is("the other way", x.road(4, 1, 2), 9);
        DUE.is("none again", x.road(1, 4, 0), 2);
        DUE.is("far", x.far(1, 4), NONE);
        int[][] wrong = {{0, 0, 1}, {-1, 0, 1}, {0, -1, 1}, {6, 0, 1}, {0, 6, 1}, {0, 1, -1}, {0, 1, 10}, {6, 6, 1},
            {MIN, MAX, MIN}};
        for (int[] w : wrong) {
            DUE.is("wrong road", x.road(w[0], w[1], w[2]), BAD);
        }
        DUE.is("it stays", x.road(0, 1, 0), 0);
    }

    private static void far() {
        NineMasters x = new NineMasters();
        for (int town = 0; town < 5; town++) {
            x.road(town, town + 1, 9);
        }
        DUE.is("along all", x.far(0, 5), 45);
        DUE.is("and back", x.far(5, 0), 45);
        x.road(0, 4, 9);
        DUE.is("shorter", x.far(0, 5), 18);
        DUE.is("round the back", x.far(0, 3), 18);
        x.road(4, 5, 0);
        DUE.is("cut off", x.far(0, 5), NONE);
        DUE.is("to itself", x.far(5, 5), 0);
        int[][] wrong = {{-1, 0}, {0, -1}, {6, 0}, {0, 6}, {6, 6}, {MIN, MAX}};
        for (int[] w : wrong) {
            DUE.is("wrong far", x.far(w[0], w[1]), BAD);
        }
    }

    private static void deal() {
        NineMasters x = new NineMasters();
        DUE.is("none", x.deal(0), BAD);
        DUE.is("ten", x.deal(10), BAD);
        DUE.is("below", x.deal(-1), BAD);
        DUE.is("z stays", x.count(9), 1);
        x.seed(12345);
        x.master(1, 1, 1, 1);
        DUE.is("seven", x.deal(7), 7);
        int z = 12345;
        int[] bounds = {6, 6, 10, 40};
        int[] whats = {0, 1, 2, 4};
        for (int m = 1; m < 8; m++) {
            for (int i = 0; i < 4; i++) {
                z = z * 1103515245 + 12345;
                DUE.is("drawn", x.told(m, whats[i]), (z >>> 8) % bounds[i]);
            }
            DUE.is("bars none", x.told(m, 3), 0);
            DUE.is("age", x.told(m, 5), 40);
        }
        DUE.is("z", x.count(9), z);
        DUE.is("room for one", x.deal(9), 1);
        for (int i = 0; i < 4; i++) {
            z = z * 1103515245 + 12345;
        }
        DUE.is("z by one", x.count(9), z);
        DUE.is("room for none", x.deal(9), 0);
        DUE.is("no draws", x.count(9), z);
    }

    private static void seed() {
        NineMasters x = new NineMasters();
        DUE.is("at first", x.seed(MIN), 1);
        DUE.is("then", x.seed(MAX), MIN);
        DUE.is("then", x.count(9), MAX);
    }
}
