/** Promises 46 to 50: rows that wait, images, counts. */
public final class RowTest {
    private static final int BAD = NineMasters.BAD;
    private static final int NO = NineMasters.NO;
    private static final int FULL = NineMasters.FULL;
    private static final int MIN = Integer.MIN_VALUE;
    private static final int MAX = Integer.MAX_VALUE;
    private static final Due DUE = new Due("RowTest");

    public static void main(String[] args) {
        tell();
        checkRefused();
        check();
        checkIsByTheImage();
        keepAndBack();
        imageLeavesOut();
        count();
        DUE.end();
    }

    private static void tell() {
        NineMasters x = new NineMasters();
        for (int i = 1; i <= 60; i++) {
            DUE.is("tell", x.tell(MIN), i);
        }
        DUE.is("full", x.tell(0), FULL);
        DUE.is("60 wait", x.count(7), 60);
    }

    private static void checkRefused() {
        NineMasters x = new NineMasters();
        x.tell(1);
        DUE.is("no image", x.check(1), NO);
        DUE.is("none wait then", x.count(7), 0);
        x.tell(1);
        DUE.is("bad stands first", x.check(0), BAD);
        DUE.is("none wait then", x.count(7), 0);
        x.keep();
        for (int n : new int[] {0, -1, 31, MIN, MAX}) {
            x.tell(0);
            DUE.is("wrong check", x.check(n), BAD);
            DUE.is("none wait then", x.count(7), 0);
        }
    }

    /** Every length and every place of a wrong number, for a guild of old ones. */
    private static void check() {
        NineMasters x = old(5);
        x.keep();
        int[] row = yearsTold(x, 30);
        for (int n : new int[] {1, 2, 7, 30}) {
            tellRow(x, row, 2 * n, -1);
            DUE.is("all of " + n, x.check(n), 0);
            DUE.is("none wait then", x.count(7), 0);
            for (int wrong = 0; wrong < 2 * n; wrong += 1 + wrong / 5) {
                tellRow(x, row, 2 * n, wrong);
                DUE.is("one is wrong", x.check(n), 1 + wrong);
                tellRow(x, row, wrong, -1);
                DUE.is("one is missing", x.check(n), 1 + wrong);
            }
            if (n < 30) {
                tellRow(x, row, 2 * n + 1, -1);
                DUE.is("one too many", x.check(n), 1 + 2 * n);
                tellRow(x, row, 2 * n + 2, 2 * n);
                DUE.is("two too many", x.check(n), 1 + 2 * n);
            }
        }
    }

    private static NineMasters old(int seed) {
        NineMasters x = new NineMasters();
        x.seed(seed);
        x.deal(9);
        for (int m = 0; m < 9; m++) {
            x.set(m, 5, 50 + 5 * m);
        }
        x.set(3, 6, 1);
        return x;
    }

    /** By playing the years and going back. */
    private static int[] yearsTold(NineMasters x, int n) {
        int[] row = new int[2 * n];
        for (int year = 0; year < n; year++) {
            x.years(1);
            row[2 * year] = x.count(1);
            for (int m = 0; m < x.count(0); m++) {
                row[2 * year + 1] += x.told(m, 5);
            }
        }
        x.back();
        return row;
    }

    private static void tellRow(NineMasters x, int[] row, int many, int wrong) {
        for (int i = 0; i < many; i++) {
            x.tell(i == wrong ? row[i] + 1 : row[i]);
        }
    }

    private static void checkIsByTheImage() {
        NineMasters x = old(9);
        x.keep();
        int[] row = yearsTold(x, 4);
        x.years(10);
        x.seed(4);
        int z = x.count(9);
        int dead = x.count(1);
        tellRow(x, row, 8, -1);
        DUE.is("by the image", x.check(4), 0);
        DUE.is("z stays", x.count(9), z);
        DUE.is("the dead stay", x.count(1), dead);
        tellRow(x, row, 8, -1);
        DUE.is("again", x.check(4), 0);
    }

    private static void keepAndBack() {
        NineMasters x = old(1);
        DUE.is("no image", x.back(), NO);
        x.road(0, 1, 3);
        x.master(5, 0, 0, 0);
        x.turns(0, 5);
        x.set(0, 6, 0);
        x.wants(3);
        x.has(2, 500);
        x.has(3, 50);
        Fed.text(x, "fine 1", true);
        int[] before = all(x);
        DUE.is("keep", x.keep(), 9);
        for (int turn = 0; turn < 2; turn++) {
            x.road(0, 1, 7);
            x.road(1, 2, 1);
            x.years(60);
            x.wants(4);
            x.has(2, 5);
            x.has(3, 5);
            x.go(1);
            x.rests(1);
            Fed.text(x, "fine 2", true);
            Fed.text(x, "term 9", true);
            x.bars(0, x.told(0, 2) == 1 ? 2 : 1, x.told(0, 2) == 1 ? 2 : 1);
            DUE.is("fine by the new text", x.fine(), 2);
            DUE.is("back", x.back(), 9);
            int[] now = all(x);
            for (int i = 0; i < now.length; i++) {
                DUE.is("as it was, " + i, now[i], before[i]);
            }
        }
        x.clear();
        DUE.is("keep again", x.keep(), 9);
        x.wants(1);
        x.back();
        DUE.is("the newer image", x.count(4), 0);
    }

    private static int[] all(NineMasters x) {
        int[] all = new int[200];
        int n = 0;
        for (int m = 0; m < 9; m++) {
            for (int what = 0; what < 10; what++) {
                all[n++] = x.told(m, what);
            }
        }
        for (int i = 0; i < 6; i++) {
            for (int j = 0; j < 6; j++) {
                all[n++] = x.far(i, j);
            }
        }
        for (int g = 0; g < 10; g++) {
            all[n++] = x.knows(g, 0);
            all[n++] = x.knows(g, 1);
        }
        for (int what = 0; what < 4; what++) {
            all[n++] = x.apprentice(what);
        }
        for (int what = 0; what < 10; what++) {
            all[n++] = x.count(what);
        }
        all[n++] = x.fine();
        all[n++] = x.why(0);
        all[n++] = x.soonest(0);
        all[n++] = x.made();
        return all;
    }

    private static void imageLeavesOut() {
        NineMasters x = new NineMasters();
        x.keep();
        x.sheet(0, 0, 3);
        x.lay(0, 3, 7);
        x.tell(1);
        x.feed(0, 0, 0);
        x.back();
        DUE.is("sheets stay", x.reads(0), 0);
        DUE.is("slots stay", x.rest(0, 5), 2);
        DUE.is("what waits stays", x.count(7), 1);
        DUE.is("the tape stays", x.count(8), 12);
    }

    private static void count() {
        NineMasters x = new NineMasters();
        for (int what : new int[] {-1, 10, MIN, MAX}) {
            DUE.is("wrong count", x.count(what), BAD);
        }
        x.master(5, 0, 2, 0);
        x.master(5, 0, 3, 0);
        x.master(5, 0, 4, 0);
        x.learn(0);
        x.learn(1);
        x.set(2, 6, 1);
        x.wants(2);
        Fed.text(x, "fine 1", true);
        x.tell(0);
        x.tell(0);
        x.feed(0, 0, 0);
        x.seed(-8);
        int[] dues = {3, 1, 2, 2, 1, 1, 1, 2, 12, -8};
        for (int what = 0; what < dues.length; what++) {
            DUE.is("count(" + what + ")", x.count(what), dues[what]);
        }
    }
}
