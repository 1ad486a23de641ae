/**
 * An object in which everything holds something, so that no change in it can
 * stay unseen: eight MASTERS, three GESTURES known, four TEXTS, three SHEETS
 * (shorts, floats, one without places), four SLOTS, a TAPE, six numbers that
 * wait and are right, and AN IMAGE that is otherwise than what is now.
 */
final class Rich {
    static final int MASTERS = 8;
    static final int TEXTS = 4;
    static final int TAPE = 10;
    static final int WAITING = 6;
    static final int SHORTS = 0;
    static final int SHORTS_SIZE = 5;
    static final int FLOATS = 1;
    static final int FLOATS_SIZE = 4;
    static final int EMPTY = 2;
    static final int MISSING = 3;
    static final int EMPTY_SLOT = 0;
    static final int MASTER_SLOT = 1;
    static final int SHEET_SLOT = 2;
    static final int NUMBER_SLOT = 3;
    static final int FLOATS_SLOT = 4;

    private static final int[][] GUILD = {{0, 0, 0, 10}, {1, 1, 1, 20}, {2, 0, 2, 30}, {3, 1, 3, 40}, {4, 0, 4, 50},
        {5, 1, 5, 60}, {0, 2, 6, 70}, {1, 1, 7, 80}};

    private Rich() {
    }

    static Played made() {
        Played p = new Played();
        guild(p);
        apprentice(p);
        p.text("term 2+k");
        p.text("fame f*100+a");
        p.text("fine c*d");
        sheets(p);
        slots(p);
        p.call("keep");
        behindTheImage(p);
        rows(p);
        return p;
    }

    private static void guild(Played p) {
        p.call("seed", 7);
        for (int[] m : GUILD) {
            p.call("master", m);
        }
        p.then("bars", 0, 1, 2).then("bars", 2, 8, 9).then("bars", 5, 6, 7).then("bars", 7, 3, 3);
        p.then("set", 1, 5, 45).then("set", 6, 5, 90).then("set", 6, 6, 1);
        p.then("road", 0, 1, 3).then("road", 1, 2, 4).then("road", 0, 3, 9);
    }

    private static void apprentice(Played p) {
        p.then("has", 2, 500).then("has", 3, 60);
        p.then("learn", 4).then("learn", 0).then("go", 1).then("learn", 5);
        p.then("wants", 4).then("wants", 0).then("wants", 4);
    }

    private static void sheets(Played p) {
        p.call("sheet", SHORTS, 0, SHORTS_SIZE);
        int[] shorts = {40, 45, -3, 99, 7};
        for (int i = 0; i < shorts.length; i++) {
            p.call("mark", SHORTS, i, shorts[i]);
        }
        p.call("sheet", FLOATS, 1, FLOATS_SIZE);
        int[] floats = {12, NineMasters.NONE, -99999, 99999};
        for (int i = 0; i < floats.length; i++) {
            p.call("mark", FLOATS, i, floats[i]);
        }
        p.call("sheet", EMPTY, 0, 0);
    }

    private static void slots(Played p) {
        p.then("lay", MASTER_SLOT, 1, 3).then("lay", SHEET_SLOT, 2, SHORTS);
        p.then("lay", NUMBER_SLOT, 3, -1234567).then("lay", FLOATS_SLOT, 2, FLOATS);
    }

    private static void behindTheImage(Played p) {
        p.then("seed", 99).then("set", 0, 4, 11).then("wants", 5).then("road", 2, 3, 2);
        p.then("has", 3, 61).then("turns", 7, 3).then("rests", 2);
        p.text("fine c+d");
    }

    /** In the image one is DEAD at 90, one is 45 and six are 40: too young to die in three years. */
    private static void rows(Played p) {
        for (int year = 1; year <= WAITING / 2; year++) {
            p.then("tell", 1).then("tell", 90 + 45 + 6 * 40 + 7 * year);
        }
        p.tape("term 9*k+1");
    }
}
