/** Promises 37 to 45: sheets, slots. */
public final class SheetTest {
    private static final int BAD = NineMasters.BAD;
    private static final int NO = NineMasters.NO;
    private static final int NONE = NineMasters.NONE;
    private static final int NOTHING = NineMasters.NOTHING;
    private static final int KIND = NineMasters.KIND;
    private static final int INDEX = NineMasters.INDEX;
    private static final int SIZE = NineMasters.SIZE;
    private static final int MIN = Integer.MIN_VALUE;
    private static final int MAX = Integer.MAX_VALUE;
    private static final Due DUE = new Due("SheetTest");

    public static void main(String[] args) {
        sheet();
        mark();
        pour();
        reads();
        copy();
        copyRefused();
        lay();
        slotsKeepCopies();
        ask();
        item();
        rest();
        DUE.end();
    }

    private static int place(NineMasters x, int sheet, int place) {
        x.lay(4, 2, sheet);
        return x.item(4, place);
    }

    private static void sheet() {
        NineMasters x = new NineMasters();
        DUE.is("none", x.sheet(0, 0, 0), 0);
        DUE.is("all", x.sheet(3, 1, 24), 24);
        int[][] wrong = {{-1, 0, 1}, {4, 0, 1}, {0, -2, 1}, {0, 2, 1}, {0, 0, 25}, {0, 1, MAX}, {4, 0, -1}, {0, 2, -1}, {-1, -1, 0}};
        for (int[] w : wrong) {
            DUE.is("wrong sheet", x.sheet(w[0], w[1], w[2]), BAD);
        }
        DUE.is("size", x.sheet(0, 0, -1), SIZE);
        DUE.is("size", x.sheet(0, 1, MIN), SIZE);
        x.mark(3, 0, 5);
        DUE.is("made anew", x.sheet(3, 0, 2), 2);
        DUE.is("all 0", place(x, 3, 0), 0);
        DUE.is("n any", x.sheet(3, -1, MIN), 0);
        DUE.is("n any", x.sheet(3, -1, MAX), 0);
        DUE.is("missing", x.reads(3), NOTHING);
    }

    private static void mark() {
        NineMasters x = new NineMasters();
        x.sheet(0, 0, 2);
        x.sheet(1, 1, 2);
        DUE.is("a short", x.mark(0, 1, 32768), 1);
        DUE.is("its lowest bits", place(x, 0, 1), -32768);
        x.mark(0, 1, 0x12345678);
        DUE.is("its lowest bits", place(x, 0, 1), 0x5678);
        x.mark(0, 1, BAD);
        DUE.is("its lowest bits", place(x, 0, 1), (short) BAD);
        DUE.is("a float", x.mark(1, 0, 99999), 1);
        DUE.is("it is", place(x, 1, 0), 99999);
        x.mark(1, 0, -99999);
        DUE.is("it is", place(x, 1, 0), -99999);
        DUE.is("wrong sheet", x.mark(-1, 0, 0), BAD);
        DUE.is("wrong sheet", x.mark(4, 0, 0), BAD);
        DUE.is("missing", x.mark(2, -1, 0), NOTHING);
        for (int p : new int[] {-1, 2, 24, MIN, MAX}) {
            DUE.is("no such place", x.mark(0, p, NONE), INDEX);
            DUE.is("no such place", x.mark(1, p, 100000), INDEX);
        }
        DUE.is("no number among shorts", x.mark(0, 0, NONE), KIND);
        DUE.is("too large", x.mark(1, 0, 100000), BAD);
        DUE.is("too small", x.mark(1, 0, -100000), BAD);
        DUE.is("too small", x.mark(1, 0, MIN), BAD);
        DUE.is("it stays", place(x, 1, 0), -99999);
        DUE.is("no number", x.mark(1, 1, NONE), 1);
        DUE.is("no number", place(x, 1, 1), KIND);
        DUE.is("a number again", x.mark(1, 1, 0), 1);
        DUE.is("a number again", place(x, 1, 1), 0);
    }

    private static void pour() {
        NineMasters x = new NineMasters();
        for (int m = 0; m < 6; m++) {
            x.master(0, 0, 0, 50);
        }
        DUE.is("wrong sheet", x.pour(4), BAD);
        DUE.is("wrong sheet", x.pour(-1), BAD);
        DUE.is("missing", x.pour(0), NOTHING);
        x.sheet(0, 1, 5);
        int[] marks = {100, -1, 50, NONE, 7};
        int[] dues = {99, 0, 50, 50, 7, 50};
        for (int i = 0; i < marks.length; i++) {
            x.mark(0, i, marks[i]);
        }
        DUE.is("three are otherwise", x.pour(0), 3);
        for (int m = 0; m < dues.length; m++) {
            DUE.is("fee of " + m, x.told(m, 4), dues[m]);
        }
        DUE.is("none is otherwise", x.pour(0), 0);
        x.sheet(1, 0, 24);
        DUE.is("more places than masters", x.pour(1), 5);
        x.sheet(1, 0, 0);
        DUE.is("no places", x.pour(1), 0);
    }

    private static void reads() {
        NineMasters x = new NineMasters();
        x.master(0, 0, 0, 0);
        x.master(0, 0, 0, 0);
        DUE.is("wrong sheet", x.reads(4), BAD);
        DUE.is("wrong sheet", x.reads(-1), BAD);
        DUE.is("missing", x.reads(0), NOTHING);
        x.sheet(0, 1, 4);
        for (int i = 0; i < 4; i++) {
            DUE.is("the first", x.reads(0), i);
            x.mark(0, i, i < 2 ? 40 : NONE);
        }
        DUE.is("there is none", x.reads(0), NONE);
        x.set(1, 5, 41);
        DUE.is("another age", x.reads(0), 1);
        x.mark(0, 1, NONE);
        DUE.is("no number", x.reads(0), NONE);
        x.mark(0, 3, 40);
        DUE.is("no master", x.reads(0), 3);
        x.sheet(1, 0, 0);
        DUE.is("no places", x.reads(1), NONE);
    }

    private static void copy() {
        NineMasters x = new NineMasters();
        x.sheet(0, 0, 5);
        x.sheet(1, 0, 3);
        for (int i = 0; i < 5; i++) {
            x.mark(0, i, i + 1);
        }
        DUE.is("to another", x.copy(0, 2, 1, 0, 3), 3);
        row(x, 1, 3, 4, 5);
        DUE.is("within, upwards", x.copy(0, 0, 0, 1, 4), 4);
        row(x, 0, 1, 1, 2, 3, 4);
        DUE.is("within, downwards", x.copy(0, 1, 0, 0, 4), 4);
        row(x, 0, 1, 2, 3, 4, 4);
        DUE.is("none, at the end", x.copy(0, 5, 1, 3, 0), 0);
        DUE.is("none, within", x.copy(0, 0, 1, 0, 0), 0);
        x.sheet(2, 0, 0);
        DUE.is("none, of none", x.copy(2, 0, 2, 0, 0), 0);
        x.sheet(2, 1, 2);
        x.sheet(3, 1, 2);
        x.mark(2, 1, NONE);
        DUE.is("floats", x.copy(2, 0, 3, 0, 2), 2);
        DUE.is("no number comes, too", place(x, 3, 1), KIND);
    }

    private static void row(NineMasters x, int sheet, int... dues) {
        for (int i = 0; i < dues.length; i++) {
            DUE.is("place " + i, place(x, sheet, i), dues[i]);
        }
    }

    private static void copyRefused() {
        NineMasters x = new NineMasters();
        x.sheet(0, 0, 5);
        x.sheet(1, 0, 3);
        x.sheet(2, 1, 3);
        int[][] wrong = {{-1, 0, 0, 0, 0, BAD}, {4, 0, 0, 0, 0, BAD}, {0, 0, -1, 0, 0, BAD}, {0, 0, 4, 0, 0, BAD},
            {3, 0, 4, 0, 0, BAD}, {3, 0, 0, 0, 0, NOTHING}, {0, 0, 3, 0, 0, NOTHING}, {3, 0, 3, -1, -1, NOTHING},
            {0, 0, 2, 0, 1, KIND}, {0, 0, 2, 0, -1, KIND}, {0, 0, 1, 0, -1, INDEX}, {0, -1, 1, 0, 1, INDEX},
            {0, 0, 1, -1, 1, INDEX}, {0, 5, 1, 0, 1, INDEX}, {0, 0, 1, 3, 1, INDEX}, {0, 0, 1, 0, 4, INDEX},
            {1, 0, 0, 0, 4, INDEX}, {0, 6, 1, 0, 0, INDEX}, {0, 0, 1, 4, 0, INDEX}, {0, -1, 1, 0, 0, INDEX},
            {0, MAX, 1, 0, MAX, INDEX}, {0, 1, 1, 1, MAX, INDEX}, {0, MIN, 1, MIN, MIN, INDEX}, {0, MAX, 1, MAX, 1, INDEX}};
        for (int[] w : wrong) {
            DUE.is("copy " + java.util.Arrays.toString(w), x.copy(w[0], w[1], w[2], w[3], w[4]), w[5]);
        }
    }

    private static void lay() {
        NineMasters x = new NineMasters();
        x.master(0, 0, 0, 0);
        x.sheet(1, 0, 2);
        int[][] wrong = {{-1, 0, 0}, {5, 0, 0}, {0, -1, 0}, {0, 4, 0}, {0, 1, 1}, {0, 1, -1}, {0, 2, -1}, {0, 2, 4}, {0, 1, MIN},
            {0, 2, MAX}};
        for (int[] w : wrong) {
            DUE.is("wrong lay", x.lay(w[0], w[1], w[2]), BAD);
        }
        DUE.is("missing", x.lay(0, 2, 0), NOTHING);
        DUE.is("held nothing", x.lay(0, 3, MIN), 0);
        DUE.is("held a number", x.lay(0, 1, 0), 3);
        DUE.is("missing", x.lay(0, 2, 0), NOTHING);
        DUE.is("held a master", x.lay(0, 2, 1), 1);
        DUE.is("held a sheet", x.lay(0, 0, MAX), 2);
        DUE.is("held nothing", x.lay(0, 0, 0), 0);
    }

    private static void slotsKeepCopies() {
        NineMasters x = new NineMasters();
        x.keep();
        x.master(1, 0, 0, 10);
        x.sheet(0, 0, 2);
        x.mark(0, 0, 5);
        x.lay(0, 1, 0);
        x.lay(1, 2, 0);
        x.set(0, 4, 90);
        x.turns(0, 5);
        x.mark(0, 0, 6);
        x.sheet(0, -1, 0);
        x.back();
        DUE.is("no masters", x.count(0), 0);
        DUE.is("a master as it was", x.ask(0, 1), 21);
        DUE.is("a sheet as it was", x.item(1, 0), 5);
        DUE.is("with its places", x.item(1, 2), INDEX);
    }

    private static void ask() {
        NineMasters x = new NineMasters();
        int[] worth = {20, 31, 79, 62, 75, 8};
        int[][] under = {{0}, {1, 0}, {2, 0}, {3, 1, 0}, {4, 2, 0}, {5, 0}};
        for (int kind = 0; kind < 6; kind++) {
            x.master(kind, 0, 0, 20);
            x.lay(0, 1, kind);
            for (int asked = 0; asked < 6; asked++) {
                boolean isOf = false;
                for (int u : under[kind]) {
                    isOf |= u == asked;
                }
                DUE.is("ask of " + kind + " as " + asked, x.ask(0, asked), isOf ? worth[kind] : KIND);
            }
        }
        int[][] wrong = {{-1, 0}, {5, 0}, {0, -1}, {0, 6}, {1, 6}, {MIN, MAX}};
        for (int[] w : wrong) {
            DUE.is("wrong ask", x.ask(w[0], w[1]), BAD);
        }
        DUE.is("nothing", x.ask(1, 0), NOTHING);
        x.lay(1, 3, 0);
        DUE.is("a number", x.ask(1, 0), KIND);
        x.sheet(0, 0, 1);
        x.lay(1, 2, 0);
        DUE.is("a sheet", x.ask(1, 0), KIND);
    }

    private static void item() {
        NineMasters x = new NineMasters();
        x.sheet(0, 1, 2);
        x.mark(0, 0, -7);
        x.mark(0, 1, NONE);
        x.lay(0, 2, 0);
        x.lay(1, 3, 0);
        DUE.is("item", x.item(0, 0), -7);
        DUE.is("no number", x.item(0, 1), KIND);
        for (int p : new int[] {-1, 2, 24, MIN, MAX}) {
            DUE.is("no such place", x.item(0, p), INDEX);
        }
        DUE.is("a number", x.item(1, 0), KIND);
        DUE.is("nothing", x.item(2, -1), NOTHING);
        DUE.is("wrong slot", x.item(5, 0), BAD);
        DUE.is("wrong slot", x.item(-1, 0), BAD);
    }

    private static void rest() {
        NineMasters x = new NineMasters();
        x.master(0, 0, 0, 0);
        x.lay(0, 3, -17);
        x.lay(1, 3, MIN);
        x.lay(2, 1, 0);
        DUE.is("rest", x.rest(0, 5), -2);
        DUE.is("rest", x.rest(0, -5), -2);
        DUE.is("rest", x.rest(0, MIN), -17);
        DUE.is("rest", x.rest(1, -1), 0);
        DUE.is("rest", x.rest(1, 3), MIN % 3);
        DUE.is("by 0", x.rest(0, 0), NO);
        DUE.is("a master", x.rest(2, 0), KIND);
        DUE.is("nothing", x.rest(3, 0), NOTHING);
        DUE.is("wrong slot", x.rest(5, 1), BAD);
        DUE.is("wrong slot", x.rest(-1, 1), BAD);
    }
}
