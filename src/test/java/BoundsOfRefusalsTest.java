import java.util.function.Consumer;

/** What the document says of all refused calls: which answer stands first, and that nothing changes. */
public final class BoundsOfRefusalsTest {
    private static final int BAD = Bounds.BAD;
    private static final int NO = Bounds.NO;
    private static final int FULL = Bounds.FULL;
    private static final int NONE = Bounds.NONE;
    private static final int NOTHING = Bounds.NOTHING;
    private static final int KIND = Bounds.KIND;
    private static final int INDEX = Bounds.INDEX;
    private static final int SIZE = Bounds.SIZE;
    private static final Consumer<Played> EMPTIED = p -> p.call("trim", 0);
    private static final Bounds B = new Bounds("BoundsOfRefusalsTest");

    public static void main(String[] args) {
        B.sentence("A call that is refused answers one of BAD, NO, FULL, or a FINDING, of several the one that stands first with it, and changes nothing (but the tape and the numbers that wait, where told).",
                () -> {
                    firstOfMasters();
                    firstOfApprentice();
                    firstOfChairs();
                    firstOfTexts();
                    firstOfSheets();
                    firstOfSlots();
                    butTapeAndWaiting();
                });
        B.sentence("FINDINGS: NOTHING: a SHEET is MISSING, a SLOT holds nothing; INDEX: there is no such place; SIZE: a number of places is below 0; KIND: it is none (of a KIND, a number, or another thing).",
                BoundsOfRefusalsTest::findings);
        B.end();
    }

    private static void firstOfMasters() {
        Consumer<Played> nine = p -> p.call("deal", 9);
        B.refuses(FULL, nine, "master", 0, 0, 0, 0);
        B.refuses(BAD, nine, "master", 6, 0, 0, 0);
        B.refuses(BAD, nine, "master", 0, 0, 0, 100);
        B.refuses(KIND, "as", 0, 5);
        B.refuses(BAD, "as", 0, 6);
        B.refuses(BAD, "as", Rich.MASTERS, 5);
        B.refuses(NONE, "far", 4, 5);
        B.refuses(BAD, "far", 4, 6);
    }

    private static void firstOfApprentice() {
        B.refuses(NO, "knows", 9, 1);
        B.refuses(BAD, "knows", 9, 2);
        B.refuses(NO, "go", 4);
        B.refuses(BAD, p -> p.call("road", 0, 1, 0), "go", 1);
        B.refuses(BAD, "go", 6);
        B.refuses(NO, "learn", 6);
        B.refuses(BAD, "learn", 8);
        B.refuses(NO, "use", 9);
        B.refuses(BAD, "use", 10);
    }

    private static void firstOfChairs() {
        Consumer<Played> six = p -> p.times(2, "wants", 9);
        B.refuses(FULL, six, "wants", 9);
        B.refuses(BAD, six, "wants", 10);
        B.refuses(NONE, six, "soonest", 2);
        B.refuses(BAD, six, "soonest", 3);
        B.refuses(NONE, "last", 9);
        B.refuses(BAD, "last", 10);
        B.refuses(NOTHING, "cut", Rich.MISSING, 1);
        B.refuses(BAD, "cut", Rich.MISSING, 2);
        Played nobody = new Played();
        B.is(NOTHING, nobody, "cut", 0, 0);
        B.is(BAD, nobody, "cut", 0, 2);
        B.is(BAD, nobody, "cut", 4, 0);
        B.is(NONE, nobody.then("sheet", 0, 0, 1), "cut", 0, 0);
        B.is(BAD, nobody, "cut", 0, -1);
    }

    private static void firstOfTexts() {
        Consumer<Played> full = p -> {
            p.call("trim", 0);
            for (int i = Rich.TEXTS; i < 14; i++) {
                p.text("term " + i);
            }
        };
        B.refuses(FULL, full.andThen(p -> p.tape("term 1")), EMPTIED, "text");
        B.refuses(-106, full.andThen(p -> p.tape("term 1.")), EMPTIED, "text");
        B.is(NONE, new Played(), "why", 2);
        B.is(BAD, new Played(), "why", 3);
    }

    private static void firstOfSheets() {
        B.refuses(SIZE, "sheet", 0, 0, -1);
        B.refuses(BAD, "sheet", 4, 0, -1);
        B.refuses(BAD, "sheet", 0, 2, -1);
        B.refuses(BAD, "mark", 4, 99, NONE);
        B.refuses(NOTHING, "mark", Rich.MISSING, 99, NONE);
        B.refuses(INDEX, "mark", Rich.SHORTS, 99, NONE);
        B.refuses(KIND, "mark", Rich.SHORTS, 0, NONE);
        B.refuses(INDEX, "mark", Rich.FLOATS, 99, 100000);
        B.refuses(BAD, "mark", Rich.FLOATS, 0, 100000);
        B.refuses(BAD, "copy", Rich.MISSING, -1, 4, -1, -1);
        B.refuses(BAD, "copy", 4, -1, Rich.MISSING, -1, -1);
        B.refuses(NOTHING, "copy", Rich.MISSING, -1, Rich.FLOATS, -1, -1);
        B.refuses(NOTHING, "copy", Rich.FLOATS, -1, Rich.MISSING, -1, -1);
        B.refuses(KIND, "copy", Rich.SHORTS, -1, Rich.FLOATS, -1, -1);
        B.refuses(INDEX, "copy", Rich.SHORTS, -1, Rich.EMPTY, -1, -1);
        B.refuses(NOTHING, "reads", Rich.MISSING);
        B.refuses(NONE, "reads", Rich.EMPTY);
    }

    private static void firstOfSlots() {
        B.refuses(BAD, "lay", 5, 2, Rich.MISSING);
        B.refuses(NOTHING, "lay", 4, 2, Rich.MISSING);
        B.refuses(BAD, "ask", Rich.EMPTY_SLOT, 6);
        B.refuses(NOTHING, "ask", Rich.EMPTY_SLOT, 5);
        B.refuses(BAD, "ask", Rich.NUMBER_SLOT, 6);
        B.refuses(KIND, "ask", Rich.NUMBER_SLOT, 5);
        B.refuses(NOTHING, "item", Rich.EMPTY_SLOT, -1);
        B.refuses(KIND, "item", Rich.NUMBER_SLOT, -1);
        B.refuses(INDEX, "item", Rich.FLOATS_SLOT, -1);
        B.refuses(KIND, "item", Rich.FLOATS_SLOT, 1);
        B.refuses(BAD, "rest", 5, 0);
        B.refuses(NOTHING, "rest", Rich.EMPTY_SLOT, 0);
        B.refuses(KIND, "rest", Rich.SHEET_SLOT, 0);
        B.refuses(NO, "rest", Rich.NUMBER_SLOT, 0);
    }

    /** Told so with text and check alone: the tape and what waits are used up, nothing else is otherwise. */
    private static void butTapeAndWaiting() {
        B.refuses(-107, p -> p.call("trim", 7), EMPTIED, "text");
        B.refuses(BAD, p -> { }, p -> p.call("check", 3), "check", 31);
        Played none = new Played().then("tell", 1).then("tell", 2);
        B.is(BAD, none, "check", 0);
        B.is(0, none, "count", 7);
        B.is(NO, none.then("tell", 1), "check", 1);
        B.is(0, none, "count", 7);
        B.is(BAD, none.then("tell", 1), "sheet", 4, 0, 0);
        B.is(NO, none, "back");
        B.is(1, none, "count", 7);
    }

    private static void findings() {
        B.refuses(NOTHING, "pour", Rich.MISSING);
        B.refuses(NOTHING, "rest", Rich.EMPTY_SLOT, 1);
        B.refuses(INDEX, "item", Rich.SHEET_SLOT, Rich.SHORTS_SIZE);
        B.refuses(INDEX, "mark", Rich.SHORTS, Rich.SHORTS_SIZE, 0);
        B.refuses(SIZE, "sheet", 0, 1, -1);
        B.refuses(KIND, "as", 0, 1);
        B.refuses(KIND, "item", Rich.FLOATS_SLOT, 1);
        B.refuses(KIND, "ask", Rich.SHEET_SLOT, 0);
    }
}
