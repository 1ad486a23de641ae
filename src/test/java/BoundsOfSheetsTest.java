/** The bounds of the document's part 5 and of promises 37 to 45, sentence by sentence. */
public final class BoundsOfSheetsTest {
    private static final int BAD = Bounds.BAD;
    private static final int NO = Bounds.NO;
    private static final int NONE = Bounds.NONE;
    private static final int NOTHING = Bounds.NOTHING;
    private static final int KIND = Bounds.KIND;
    private static final int INDEX = Bounds.INDEX;
    private static final int SIZE = Bounds.SIZE;
    private static final int MIN = Bounds.MIN;
    private static final int MAX = Bounds.MAX;
    private static final Bounds B = new Bounds("BoundsOfSheetsTest");

    public static void main(String[] args) {
        terms();
        promises37And38();
        promises39To41();
        promises42And43();
        promises44And45();
        B.end();
    }

    /** What stands at a place of a SHEET, by way of SLOT 4. */
    private static void placeIs(int due, Played p, int sheet, int place) {
        p.call("lay", 4, 2, sheet);
        B.is(due, p, "item", 4, place);
    }

    private static void rowIs(Played p, int sheet, int... dues) {
        for (int i = 0; i < dues.length; i++) {
            placeIs(dues[i], p, sheet, i);
        }
        placeIs(INDEX, p, sheet, dues.length);
    }

    /** A SHEET of a sort with these numbers. */
    private static Played row(Played p, int sheet, int sort, int... numbers) {
        p.call("sheet", sheet, sort, numbers.length);
        for (int i = 0; i < numbers.length; i++) {
            p.call("mark", sheet, i, numbers[i]);
        }
        return p;
    }

    private static void terms() {
        B.sentence("SHEETS 0 .. 3 are rows of shorts (sort 0) or floats (1; whole numbers), with 0 to 24 places, or MISSING (at first).", () -> {
            Played p = new Played();
            for (int sheet = 0; sheet < 4; sheet++) {
                B.is(NOTHING, p, "reads", sheet);
                B.is(24, p, "sheet", sheet, sheet % 2, 24);
                placeIs(0, p, sheet, 23);
                placeIs(INDEX, p, sheet, 24);
                B.is(0, p, "sheet", sheet, sheet % 2, 0);
                placeIs(INDEX, p, sheet, 0);
            }
            B.bounds("sheet", 0, 0, 3, 0, 0, 5);
            B.bounds("mark", 0, 0, 3, 0, 0, 0);
            B.bounds("pour", 0, 0, 3, 0);
            B.bounds("reads", 0, 0, 3, 0);
            B.bounds("cut", 0, 0, 3, 0, 0);
            B.bounds("copy", 0, 0, 3, 0, 0, 0, 0, 1);
            B.bounds("copy", 2, 0, 3, 0, 0, 0, 0, 1);
            B.bounds("lay", 2, 0, 3, 0, 2, 0);
        });
        B.sentence("A place of floats may be NO NUMBER.", () -> {
            Played p = row(new Played(), 0, 1, 5, NONE);
            placeIs(KIND, p, 0, 1);
            placeIs(5, p, 0, 0);
            p.call("mark", 0, 1, 6);
            placeIs(6, p, 0, 1);
        });
        B.sentence("SLOTS 0 .. 4 each hold nothing (at first)", () -> {
            Played p = new Played();
            for (int slot = 0; slot < 5; slot++) {
                B.is(NOTHING, p, "ask", slot, 0);
                B.is(NOTHING, p, "item", slot, 0);
                B.is(NOTHING, p, "rest", slot, 1);
                B.is(0, p, "lay", slot, 3, 1);
            }
            B.bounds("lay", 0, 0, 4, 0, 3, 7);
            B.bounds("ask", 0, 0, 4, 0, 0);
            B.bounds("item", 0, 0, 4, 0, 0);
            B.bounds("rest", 0, 0, 4, 0, 1);
        });
        B.sentence("a MASTER (as it is then, for good), a SHEET (a row of its own, as it was then), or a number", BoundsOfSheetsTest::asItWas);
    }

    private static void asItWas() {
        Played p = row(new Played(), 0, 0, 5, 6).then("keep").then("master", 1, 0, 0, 10);
        p.then("lay", 0, 1, 0).then("lay", 1, 2, 0).then("lay", 2, 3, MIN);
        p.then("set", 0, 4, 99).then("turns", 0, 5).then("mark", 0, 0, 7).then("copy", 0, 0, 0, 1, 1);
        B.is(21, p, "ask", 0, 1);
        B.is(KIND, p, "ask", 0, 5);
        B.is(5, p, "item", 1, 0);
        B.is(6, p, "item", 1, 1);
        p.then("back").then("sheet", 0, -1, 0);
        B.is(21, p, "ask", 0, 1);
        B.is(5, p, "item", 1, 0);
        B.is(INDEX, p, "item", 1, 2);
        B.is(MIN % 7, p, "rest", 2, 7);
    }

    private static void promises37And38() {
        B.sentence("A SHEET becomes a row of n places of a sort, all 0 (sort -1: MISSING, n any): n (sort -1: 0). BAD: sheet, sort, n above 24; SIZE.", () -> {
            B.bounds("sheet", 1, -1, 1, 0, 0, 5);
            for (int sort = 0; sort < 2; sort++) {
                B.is(0, Rich.made(), "sheet", 0, sort, 0);
                B.is(24, Rich.made(), "sheet", 0, sort, 24);
                B.refuses(BAD, "sheet", 0, sort, 25);
                B.refuses(BAD, "sheet", 0, sort, MAX);
                B.refuses(SIZE, "sheet", 0, sort, -1);
                B.refuses(SIZE, "sheet", 0, sort, MIN);
            }
            for (int n : new int[] {0, 24, 25, -1, MIN, MAX}) {
                B.is(0, Rich.made(), "sheet", 0, -1, n);
                B.is(NOTHING, Rich.made().then("sheet", 0, -1, n), "reads", 0);
                B.refuses(BAD, "sheet", 4, -1, n);
                B.refuses(BAD, "sheet", -1, 0, n);
                B.refuses(BAD, "sheet", 0, 2, n);
                B.refuses(BAD, "sheet", 0, -2, n);
            }
            rowIs(Rich.made().then("sheet", 0, 0, 5), 0, 0, 0, 0, 0, 0);
            rowIs(Rich.made().then("sheet", 1, 1, 3), 1, 0, 0, 0);
            placeIs(0, new Played().then("sheet", 3, 0, 24).then("mark", 3, 23, 7).then("sheet", 3, 0, 24), 3, 23);
            placeIs(0, new Played().then("sheet", 3, 1, 24).then("mark", 3, 23, NONE).then("sheet", 3, 1, 24), 3, 23);
            rowIs(Rich.made().then("sheet", 0, 0, 2).then("sheet", 0, 0, 3), 0, 0, 0, 0);
        });
        B.sentence("A place of a SHEET becomes v (of shorts its lowest 16 bits; of floats v, -99999 .. 99999; NONE: NO NUMBER): 1.",
                BoundsOfSheetsTest::marks);
        B.sentence("BAD: sheet; NOTHING; INDEX; KIND: NONE in a row of shorts; BAD: v of floats.", BoundsOfSheetsTest::markRefused);
    }

    private static void marks() {
        int[] numbers = {0, 32767, 32768, 65535, 65536, 65537, -1, -32768, -32769, -65536, MIN, MAX, NONE + 1, NONE - 1, 99999, -99999};
        Played p = new Played().then("sheet", 0, 0, 24).then("sheet", 1, 1, 24);
        for (int v : numbers) {
            B.is(1, p, "mark", 0, 23, v);
            placeIs((short) v, p, 0, 23);
        }
        for (int v : new int[] {0, 99999, -99999, 32768, -32769}) {
            B.is(1, p, "mark", 1, 0, v);
            placeIs(v, p, 1, 0);
        }
        B.is(1, p, "mark", 1, 0, NONE);
        placeIs(KIND, p, 1, 0);
        placeIs(0, p, 0, 22);
        placeIs(0, p, 1, 1);
    }

    private static void markRefused() {
        for (int v : new int[] {0, NONE, 100000}) {
            B.refuses(BAD, "mark", -1, 0, v);
            B.refuses(BAD, "mark", 4, 99, v);
            B.refuses(NOTHING, "mark", Rich.MISSING, 0, v);
            B.refuses(NOTHING, "mark", Rich.MISSING, -1, v);
            for (int place : new int[] {-1, Rich.SHORTS_SIZE, 24, MIN, MAX}) {
                B.refuses(INDEX, "mark", Rich.SHORTS, place, v);
            }
            for (int place : new int[] {-1, Rich.FLOATS_SIZE, MIN, MAX}) {
                B.refuses(INDEX, "mark", Rich.FLOATS, place, v);
            }
            B.refuses(INDEX, "mark", Rich.EMPTY, 0, v);
        }
        B.refuses(KIND, "mark", Rich.SHORTS, 0, NONE);
        B.refuses(KIND, "mark", Rich.SHORTS, Rich.SHORTS_SIZE - 1, NONE);
        for (int v : new int[] {100000, -100000, MIN, MAX, NONE - 1, NONE + 1, BAD}) {
            B.refuses(BAD, "mark", Rich.FLOATS, 0, v);
            B.refuses(BAD, "mark", Rich.FLOATS, Rich.FLOATS_SIZE - 1, v);
        }
        B.is(1, Rich.made(), "mark", Rich.SHORTS, Rich.SHORTS_SIZE - 1, 0);
        B.is(1, Rich.made(), "mark", Rich.FLOATS, Rich.FLOATS_SIZE - 1, 0);
    }

    private static void promises39To41() {
        B.sentence("FEES of MASTERS, by numbers, become the places of a SHEET from 0 on (each held within 0 .. 99; NO NUMBER, and beyond the SHEET: they stay): how many are otherwise then. BAD; NOTHING.",
                BoundsOfSheetsTest::pour);
        B.sentence("The first place (of numbers alone) at which a SHEET is not AGE of that MASTER (of places that are no MASTER all numbers are not). BAD; NOTHING; NONE: there is none.",
                BoundsOfSheetsTest::reads);
        B.sentence("So many places of a SHEET come to another one (or the same), as they were: many.", BoundsOfSheetsTest::copies);
        B.sentence("BAD; NOTHING; KIND: they are not of one sort; INDEX (many below 0, too; many 0: not at the place behind the last one).",
                BoundsOfSheetsTest::copyRefused);
    }

    private static void pour() {
        Played p = new Played().times(9, "master", 0, 0, 0, 50);
        row(p, 0, 1, -1, 0, 1, 50, NONE, 98, 99, 100);
        B.is(6, p, "pour", 0);
        int[] dues = {0, 0, 1, 50, 50, 98, 99, 99, 50};
        for (int m = 0; m < 9; m++) {
            B.is(dues[m], p, "told", m, 4);
        }
        B.is(0, p, "pour", 0);
        row(p, 1, 0, 32767, -32768);
        B.is(1, p, "pour", 1);
        B.is(99, p, "told", 0, 4);
        B.is(0, p, "told", 1, 4);
        p.call("sheet", 2, 0, 24);
        B.is(8, p, "pour", 2);
        p.then("set", 3, 6, 1).then("sheet", 2, 1, 4).then("mark", 2, 3, 7);
        B.is(1, p, "pour", 2);
        B.is(7, p, "told", 3, 4);
        p.call("sheet", 2, 0, 0);
        B.is(0, p, "pour", 2);
        B.refuses(NOTHING, "pour", Rich.MISSING);
        B.refuses(BAD, "pour", 4);
        B.refuses(BAD, "pour", -1);
        B.is(0, row(new Played(), 0, 0, 5), "pour", 0);
    }

    private static void reads() {
        Played p = new Played().times(2, "master", 0, 0, 0, 0).then("set", 0, 5, 0).then("set", 1, 5, 99);
        row(p, 0, 1, 0, 99);
        B.is(NONE, p, "reads", 0);
        row(p, 0, 1, 0, 98);
        B.is(1, p, "reads", 0);
        row(p, 0, 1, 1, 98);
        B.is(0, p, "reads", 0);
        row(p, 0, 1, NONE, NONE, NONE);
        B.is(NONE, p, "reads", 0);
        row(p, 0, 1, 0, 99, 0);
        B.is(2, p, "reads", 0);
        row(p, 0, 1, NONE, 99, NONE, 0);
        B.is(3, p, "reads", 0);
        row(p, 0, 0, 0, 99);
        B.is(NONE, p, "reads", 0);
        B.is(1, p.then("set", 1, 5, 98).then("set", 1, 6, 1), "reads", 0);
        B.is(NONE, p.then("set", 1, 5, 99), "reads", 0);
        p.call("sheet", 0, 0, 0);
        B.is(NONE, p, "reads", 0);
        Played many = new Played().times(9, "master", 0, 0, 0, 0).then("sheet", 0, 1, 24);
        for (int place = 0; place < 24; place++) {
            B.is(place, many, "reads", 0);
            many.call("mark", 0, place, place < 9 ? 40 : NONE);
        }
        B.is(NONE, many, "reads", 0);
        B.refuses(NOTHING, "reads", Rich.MISSING);
        B.refuses(BAD, "reads", 4);
        B.refuses(BAD, "reads", -1);
        B.refuses(NONE, "reads", Rich.EMPTY);
    }

    private static void copies() {
        Played p = row(new Played(), 0, 0, 1, 2, 3, 4, 5);
        p.call("sheet", 1, 0, 3);
        B.is(3, p, "copy", 0, 2, 1, 0, 3);
        rowIs(p, 1, 3, 4, 5);
        B.is(4, p, "copy", 0, 0, 0, 1, 4);
        rowIs(p, 0, 1, 1, 2, 3, 4);
        B.is(4, p, "copy", 0, 1, 0, 0, 4);
        rowIs(p, 0, 1, 2, 3, 4, 4);
        B.is(5, p, "copy", 0, 0, 0, 0, 5);
        rowIs(p, 0, 1, 2, 3, 4, 4);
        Played floats = row(row(new Played(), 0, 1, NONE, -99999), 3, 1, 7, 8);
        B.is(2, floats, "copy", 0, 0, 3, 0, 2);
        rowIs(floats, 3, KIND, -99999);
        Played wide = new Played().then("sheet", 0, 0, 24).then("sheet", 1, 0, 24).then("mark", 0, 23, 9);
        B.is(24, wide, "copy", 0, 0, 1, 0, 24);
        placeIs(9, wide, 1, 23);
    }

    private static void copyRefused() {
        int shorts = Rich.SHORTS;
        int last = Rich.SHORTS_SIZE;
        int[][] wrong = {{4, 0, 0, 0, 0, BAD}, {-1, 0, 0, 0, 0, BAD}, {0, 0, 4, 0, 0, BAD}, {0, 0, -1, 0, 0, BAD},
            {Rich.MISSING, 0, 4, -1, -1, BAD}, {Rich.MISSING, 0, shorts, 0, 0, NOTHING}, {shorts, 0, Rich.MISSING, 0, 0, NOTHING},
            {Rich.MISSING, -1, Rich.MISSING, -1, -1, NOTHING}, {Rich.FLOATS, 9, Rich.MISSING, 9, -9, NOTHING},
            {shorts, 0, Rich.FLOATS, 0, 1, KIND}, {Rich.FLOATS, 0, shorts, 0, 1, KIND}, {shorts, 0, Rich.FLOATS, 0, -1, KIND},
            {shorts, 9, Rich.FLOATS, 9, 9, KIND}, {shorts, 0, Rich.FLOATS, 0, 0, KIND},
            {shorts, 0, shorts, 0, -1, INDEX}, {shorts, 2, shorts, 2, MIN, INDEX}, {shorts, 0, shorts, 0, last + 1, INDEX},
            {shorts, 1, shorts, 0, last, INDEX}, {shorts, 0, shorts, 1, last, INDEX}, {shorts, -1, shorts, 0, 1, INDEX},
            {shorts, 0, shorts, -1, 1, INDEX}, {shorts, last, shorts, 0, 1, INDEX}, {shorts, 0, shorts, last, 1, INDEX},
            {shorts, last + 1, shorts, 0, 0, INDEX}, {shorts, 0, shorts, last + 1, 0, INDEX}, {shorts, -1, shorts, 0, 0, INDEX},
            {shorts, 0, shorts, -1, 0, INDEX}, {shorts, 0, Rich.EMPTY, 0, 1, INDEX}, {Rich.EMPTY, 0, shorts, 0, 1, INDEX},
            {Rich.EMPTY, 1, Rich.EMPTY, 0, 0, INDEX}, {shorts, MAX, shorts, 0, MAX, INDEX}, {shorts, 1, shorts, 1, MAX, INDEX},
            {shorts, MAX, shorts, MAX, 1, INDEX}, {shorts, MIN, shorts, 0, MAX, INDEX}, {shorts, 0, shorts, MIN, MIN, INDEX},
            {shorts, MAX, shorts, 0, 0, INDEX}};
        for (int[] w : wrong) {
            B.refuses(w[5], "copy", w[0], w[1], w[2], w[3], w[4]);
        }
        B.is(0, Rich.made(), "copy", shorts, last, shorts, last, 0);
        B.is(0, Rich.made(), "copy", shorts, 0, shorts, last, 0);
        B.is(0, Rich.made(), "copy", shorts, last, Rich.EMPTY, 0, 0);
        B.is(1, Rich.made(), "copy", shorts, last - 1, shorts, 0, 1);
        B.is(1, Rich.made(), "copy", shorts, 0, shorts, last - 1, 1);
        B.is(last, Rich.made(), "copy", shorts, 0, shorts, 0, last);
    }

    private static void promises42And43() {
        B.sentence("A SLOT holds: thing 0 nothing, 1 MASTER k, 2 SHEET k, 3 the number k: what it held (0 .. 3).", () -> {
            Played p = new Played().master(0, 0).then("sheet", 3, 0, 0);
            int[][] things = {{0, MIN}, {1, 0}, {2, 3}, {3, MAX}, {2, 3}, {1, 0}, {3, MIN}, {0, MAX}, {0, 0}};
            int held = 0;
            for (int[] t : things) {
                B.is(held, p, "lay", 4, t[0], t[1]);
                held = t[0];
            }
        });
        B.sentence("BAD: slot, thing, k; NOTHING: that SHEET is MISSING.", () -> {
            B.bounds("lay", 1, 0, 3, 0, 0, 0);
            B.bounds("lay", 2, 0, Rich.MASTERS - 1, 0, 1, 0);
            B.bounds("lay", 2, 0, 3, 0, 2, 0);
            for (int slot = 0; slot < 5; slot++) {
                B.refuses(NOTHING, "lay", slot, 2, Rich.MISSING);
                B.refuses(BAD, "lay", slot, 2, 4);
                B.refuses(BAD, "lay", slot, 1, Rich.MASTERS);
                B.refuses(BAD, "lay", slot, 4, 0);
            }
            B.refuses(BAD, "lay", 5, 2, Rich.MISSING);
            B.refuses(BAD, "lay", -1, 0, 0);
        });
        B.sentence("WORTH (by its own KIND) of the MASTER in a SLOT, taken for one of a KIND (0 .. 5). BAD; NOTHING; KIND: it is no MASTER, or not of that KIND, nor of one under it.", () -> {
            B.bounds("ask", 1, 0, 5, Rich.MASTER_SLOT, 0);
            B.refuses(BAD, "ask", Rich.EMPTY_SLOT, 6);
            B.refuses(BAD, "ask", Rich.NUMBER_SLOT, -1);
            B.refuses(NOTHING, "ask", Rich.EMPTY_SLOT, 0);
            B.refuses(KIND, "ask", Rich.NUMBER_SLOT, 0);
            B.refuses(KIND, "ask", Rich.SHEET_SLOT, 0);
            B.refuses(KIND, "ask", Rich.MASTER_SLOT, 2);
            B.refuses(KIND, "ask", Rich.MASTER_SLOT, 4);
            for (int kind : new int[] {0, 1, 3}) {
                B.is(2 * (40 + 11), Rich.made(), "ask", Rich.MASTER_SLOT, kind);
            }
        });
    }

    private static void promises44And45() {
        B.sentence("A place of the SHEET in a SLOT. BAD: slot; NOTHING; KIND: it is no SHEET; INDEX; KIND: NO NUMBER.", () -> {
            for (int place : new int[] {-1, 0, 24, MIN, MAX}) {
                B.refuses(BAD, "item", 5, place);
                B.refuses(BAD, "item", -1, place);
                B.refuses(NOTHING, "item", Rich.EMPTY_SLOT, place);
                B.refuses(KIND, "item", Rich.MASTER_SLOT, place);
                B.refuses(KIND, "item", Rich.NUMBER_SLOT, place);
            }
            for (int place : new int[] {-1, Rich.SHORTS_SIZE, 24, MIN, MAX}) {
                B.refuses(INDEX, "item", Rich.SHEET_SLOT, place);
            }
            B.refuses(INDEX, "item", Rich.FLOATS_SLOT, Rich.FLOATS_SIZE);
            B.refuses(KIND, "item", Rich.FLOATS_SLOT, 1);
            B.is(40, Rich.made(), "item", Rich.SHEET_SLOT, 0);
            B.is(7, Rich.made(), "item", Rich.SHEET_SLOT, Rich.SHORTS_SIZE - 1);
            B.is(-99999, Rich.made(), "item", Rich.FLOATS_SLOT, 2);
            B.is(99999, Rich.made(), "item", Rich.FLOATS_SLOT, 3);
            B.is(INDEX, Rich.made().then("lay", 0, 2, Rich.EMPTY), "item", 0, 0);
        });
        B.sentence("The rest of the number in a SLOT by n. BAD: slot; NOTHING; KIND: it is no number; NO: n is 0.", () -> {
            for (int n : new int[] {0, 1}) {
                B.refuses(BAD, "rest", 5, n);
                B.refuses(BAD, "rest", -1, n);
                B.refuses(NOTHING, "rest", Rich.EMPTY_SLOT, n);
                B.refuses(KIND, "rest", Rich.MASTER_SLOT, n);
                B.refuses(KIND, "rest", Rich.SHEET_SLOT, n);
            }
            B.refuses(NO, "rest", Rich.NUMBER_SLOT, 0);
            for (int k : new int[] {0, 1, -1, 17, -17, MIN, MAX, BAD}) {
                for (int n : new int[] {1, -1, 2, -2, 5, -5, MIN, MAX}) {
                    B.is(k % n, new Played().then("lay", 4, 3, k), "rest", 4, n);
                }
            }
        });
    }
}
