import java.util.function.Consumer;

/** The bounds of the document's part 4 and of promises 32 to 36, sentence by sentence. */
public final class BoundsOfTextsTest {
    private static final int BAD = Bounds.BAD;
    private static final int FULL = Bounds.FULL;
    private static final int NONE = Bounds.NONE;
    private static final int MIN = Bounds.MIN;
    private static final int MAX = Bounds.MAX;
    private static final int TAPE = 8;
    private static final int TEXTS = 6;
    private static final Bounds B = new Bounds("BoundsOfTextsTest");

    public static void main(String[] args) {
        tape();
        grammar();
        words();
        nesting();
        values();
        promises32To33();
        promises34To36();
        B.end();
    }

    /** The place of the FAULT of this text. */
    private static void fault(int place, String text) {
        B.holds("'" + text + "' has a fault at " + place, new Played().text(text) == -100 - place);
    }

    private static void fault(int place, int... bytes) {
        B.is(-100 - place, new Played().tape(bytes), "text");
    }

    /** What fine gives by this E, on day 9 with 100 COINS. */
    private static void gives(int due, String e) {
        Played p = new Played().then("rests", 9);
        B.holds("'fine " + e + "' is a text", p.text("fine " + e) == 0);
        B.is(due, p, "fine");
    }

    private static void tape() {
        B.sentence("TEXTS, 14 at most, numbered from 0", () -> {
            Played p = new Played();
            for (int i = 0; i < 14; i++) {
                B.is(BAD, p, "textTold", i, 0);
                B.is(i, p.tape("fine " + i), "text");
                B.is(2, p, "textTold", i, 0);
            }
            B.is(FULL, p.tape("fine 99"), "text");
            B.is(14, p, "count", TEXTS);
            B.is(13, p, "fine");
            B.is(13, p, "why", 2);
            B.is(BAD, p, "textTold", 14, 0);
        });
        B.sentence("THE TAPE (96 bytes at most; an act that reads it uses it up, whatever it answers)", () -> {
            Played p = new Played();
            for (int i = 1; i <= 8; i++) {
                B.is(12 * i, p, "feed", 0, 0, 0);
            }
            B.is(FULL, p, "feed", 0, 0, 0);
            B.is(-100, p, "text");
            B.is(0, p, "count", TAPE);
            B.is(0, p.tape(wide("fine 7", 96)), "text");
            B.is(7, p, "fine");
            B.is(0, p, "count", TAPE);
            B.is(-196, p.tape(wide("fine 7+", 96)), "text");
            B.is(0, p, "count", TAPE);
            usedUpWhenFull();
        });
    }

    private static String wide(String text, int length) {
        StringBuilder laid = new StringBuilder(text);
        while (laid.length() < length) {
            laid.append(' ');
        }
        return laid.toString();
    }

    private static void usedUpWhenFull() {
        Played p = new Played();
        for (int i = 0; i < 14; i++) {
            p.text("fine " + i);
        }
        B.is(FULL, p.tape("term 1"), "text");
        B.is(0, p, "count", TAPE);
        B.is(-101, p.tape(" ?"), "text");
        B.is(0, p, "count", TAPE);
    }

    private static void grammar() {
        B.sentence("KEY E. KEY: term | fame | fine.", () -> {
            String[] keys = {"term", "fame", "fine"};
            for (int key = 0; key < 3; key++) {
                Played p = new Played();
                p.text(keys[key] + " 1");
                B.is(key, p, "textTold", 0, 0);
            }
            for (String wrong : new String[] {"tern", "ter", "terms", "fam", "famex", "fin", "finee", "Fine", "ferm", "a", "1", "(", "f"}) {
                fault(0, wrong + " 1");
                fault(2, "  " + wrong + " 1");
            }
            fault(0, "");
            fault(4, "term");
            fault(5, "fine ");
            fault(5, "fine fine");
        });
        B.sentence("E, the loosest first: OR: AND { | AND }; AND: TEST { & TEST }; TEST: SUM [ (< | = | >) SUM ]", () -> {
            gives(1, "0|0|1");
            gives(1, "1&1&1");
            gives(1, "1|0&0");
            gives(1, "3<4&4>3");
            fault(8, "fine 1<2<3");
            fault(8, "fine 1=1=1");
            fault(8, "fine 1>0=1");
            gives(1, "(1<2)<3");
            fault(7, "fine 1|");
            fault(7, "fine 1&");
            fault(7, "fine 1<");
            fault(5, "fine |1");
            fault(5, "fine &1");
            fault(5, "fine =1");
            fault(7, "fine 1||1");
            fault(7, "fine 1&&1");
            fault(7, "fine 1<>1");
        });
        B.sentence("E, the loosest first: OR", BoundsOfTextsTest::allTwoSigns);
        B.sentence("SUM: TERM { (+ | -) TERM }; TERM: PIECE { (* | /) PIECE }", () -> {
            gives(-8, "1-2-3-4");
            gives(1, "100/5/4/5");
            gives(14, "2+3*4");
            gives(10, "2*3+4");
            fault(5, "fine -1");
            fault(5, "fine +1");
            fault(5, "fine *1");
            fault(7, "fine 1+");
            fault(7, "fine 1*");
            fault(7, "fine 1+-1");
            fault(7, "fine 1*/1");
        });
        B.sentence("PIECE: NUMBER (1 to 4 digits) | NAME | ! PIECE | ( E ).", () -> {
            gives(0, "0");
            gives(9, "9");
            gives(9999, "9999");
            gives(1, "0001");
            gives(0, "0000");
            fault(5, "fine 10000");
            fault(5, "fine 00001");
            fault(7, "fine 1+12345+1");
            gives(100, "c");
            gives(0, "!c");
            gives(100, "(c)");
            fault(5, "fine ");
            fault(6, "fine !");
            fault(6, "fine (");
            fault(6, "fine ()");
            fault(7, "fine (1");
            fault(6, "fine 1)");
            fault(8, "fine (1))");
        });
        B.sentence("of term k, g GESTURE, a AGE; of fame f FEE, a AGE", BoundsOfTextsTest::names);
        B.sentence("NAMES, each one letter", () -> {
            fault(5, "fine cd");
            fault(5, "fine dc");
            fault(5, "fame fa");
            fault(5, "term kga");
            B.is(0, new Played().tape("term k+g+a"), "text");
        });
        B.sentence("(what fame gives for a MASTER is told by fame(); without a TEXT: FEE)", () -> {
            for (int fee : new int[] {0, 99}) {
                Played p = new Played().then("master", 0, 0, 0, fee);
                p.text("fine 5");
                B.is(fee, p, "fame", 0);
                p.text("fame 6");
                B.is(6, p, "fame", 0);
            }
        });
        B.sentence("(what fine gives is told by fine(); without a TEXT: COINS)", () -> {
            for (int coins : new int[] {0, 9999}) {
                Played p = new Played().then("has", 2, coins);
                p.text("fame 5");
                B.is(coins, p, "fine");
                p.text("fine 6");
                B.is(6, p, "fine");
            }
        });
        B.sentence("of fine c COINS, d THE DAY", () -> {
            gives(100, "c");
            gives(9, "d");
            gives(9999, "c*0+9999");
            Played p = new Played().then("has", 2, 9999).restUntil(9999);
            p.text("fine c*d");
            B.is(9999 * 9999, p, "fine");
        });
    }

    /** Each two signs that join, with and without brackets: the tighter one joins first, of two alike the left one. */
    private static void allTwoSigns() {
        String signs = "|&<=>+-*/";
        int[] tightness = {0, 1, 2, 2, 2, 3, 3, 4, 4};
        int[] numbers = {9, 0, 2, 3, 7};
        for (int i = 0; i < signs.length(); i++) {
            for (int j = 0; j < signs.length(); j++) {
                for (int n = 0; n < 3; n++) {
                    char one = signs.charAt(i);
                    char other = signs.charAt(j);
                    int a = numbers[n];
                    int b = numbers[n + 1];
                    int c = numbers[n + 2];
                    int left = joined(other, joined(one, a, b), c);
                    int right = joined(one, a, joined(other, b, c));
                    gives(left, "(" + a + one + b + ")" + other + c);
                    gives(right, "" + a + one + "(" + b + other + c + ")");
                    if (tightness[i] == 2 && tightness[j] == 2) {
                        fault(8, "fine " + a + one + b + other + c);
                    } else {
                        gives(tightness[j] > tightness[i] ? right : left, "" + a + one + b + other + c);
                    }
                }
            }
        }
    }

    private static int joined(char sign, int a, int b) {
        switch (sign) {
            case '|': return a != 0 || b != 0 ? 1 : 0;
            case '&': return a != 0 && b != 0 ? 1 : 0;
            case '<': return a < b ? 1 : 0;
            case '=': return a == b ? 1 : 0;
            case '>': return a > b ? 1 : 0;
            case '+': return a + b;
            case '-': return a - b;
            case '*': return a * b;
            default: return b == 0 ? 0 : a / b;
        }
    }

    private static void names() {
        String[] keys = {"term ", "fame ", "fine "};
        String[] known = {"kga", "fa", "cd"};
        for (int key = 0; key < 3; key++) {
            for (char c = 'a'; c <= 'z'; c++) {
                if (known[key].indexOf(c) >= 0) {
                    B.is(0, new Played().tape(keys[key] + c), "text");
                } else {
                    fault(5, keys[key] + c);
                }
                fault(5, keys[key] + c + known[key].charAt(0));
            }
        }
        Played p = new Played().then("master", 0, 0, 9, 99).then("set", 0, 5, 77);
        p.text("term g*10+k");
        B.is(90, p, "told", 0, 7);
        p.then("master", 5, 0, 1, 0).then("master", 5, 0, 2, 0).then("learn", 1).then("learn", 2);
        B.is(92, p, "told", 0, 7);
        p.text("term a");
        B.is(77, p, "told", 0, 7);
        p.text("fame f*1000+a");
        B.is(99077, p, "fame", 0);
    }

    private static void words() {
        B.sentence("A word is a row of letters a .. z, or of digits, as long as it goes; any other byte is a sign by itself.", () -> {
            for (int b = 0; b < 256; b++) {
                boolean goesOn = b == ' ' || "|&<=>+-*/".indexOf(b) >= 0 || b >= '0' && b <= '9';
                int place = b == ' ' ? -1 : b >= '0' && b <= '9' ? -1 : goesOn ? 7 : 6;
                B.is(place < 0 ? 0 : -100 - place, new Played().tape('f', 'i', 'n', 'e', ' ', '1', b), "text");
            }
            fault(0, 'f', 'i', 'n', 'e', 'a', ' ', '1');
            fault(0, 'f', 'i', 'n', 'e', 'z', ' ', '1');
            fault(4, 'f', 'i', 'n', 'e', 'a' - 1, ' ', '1');
            fault(4, 'f', 'i', 'n', 'e', 'z' + 1, ' ', '1');
            fault(6, 'f', 'i', 'n', 'e', ' ', '1', '9' + 1);
            fault(7, 'f', 'i', 'n', 'e', ' ', '1', '0' - 1);
        });
        B.sentence("Between words and signs, and at the ends, there may be blanks (byte 32); a word right behind another one needs one.", () -> {
            B.is(0, new Played().tape("  fine  (  c  +  1  )  *  !  d  "), "text");
            B.is(0, new Played().tape("fine(c+1)*!d"), "text");
            B.is(0, new Played().tape("fine!1"), "text");
            B.is(0, new Played().tape("fine 1"), "text");
            fault(4, "fine1");
            fault(4, "fine1 ");
            fault(6, "fine 1c");
            fault(6, "fine c1");
            fault(6, "fine 1\t");
            fault(4, "fine\t1");
            fault(0, 0, 'f', 'i', 'n', 'e', ' ', '1');
        });
        B.sentence("FAULT: the first byte of the first word or sign with which no TEXT goes on (a word that needs a blank ahead of it, a NUMBER of more than 4 digits",
                BoundsOfTextsTest::faults);
        B.sentence("the end (the place behind the last byte), if it comes too soon.", () -> {
            fault(0, "");
            fault(1, " ");
            fault(12, "            ");
            fault(4, "fine");
            fault(9, "fine     ");
            fault(7, "fine 1+");
            fault(10, "fine 1+   ");
            fault(9, "fine ( 1 ");
            fault(96, wide("fine (1", 96));
        });
        B.sentence("Of a KEY that TEXT counts that was told last.", () -> {
            Played p = new Played();
            p.text("fine 1");
            p.text("fine 2");
            p.text("fame 3");
            B.is(2, p, "fine");
            B.is(1, p, "why", 2);
            B.is(2, p, "why", 1);
            B.is(NONE, p, "why", 0);
            p.text("fine 4");
            B.is(4, p, "fine");
            B.is(-105, p.tape("fine ?"), "text");
            B.is(4, p, "fine");
        });
    }

    private static void faults() {
        fault(0, "?");
        fault(3, "   fines 1");
        fault(5, "fine finer");
        fault(5, "fine cc");
        fault(7, "fine 1 c");
        fault(7, "fine c 1");
        fault(6, "fine c1");
        fault(6, "fine 9c");
        fault(9, "fine 9999c");
        fault(5, "fine 99999");
        fault(5, "fine 99999c");
        fault(8, "fine 1+ 99999");
        fault(7, "fine 1+?99999");
        fault(6, "fine 1? 99999");
        fault(5, "fine ?((((((((((");
        fault(4, "fine?");
        fault(8, "fine (c !");
    }

    private static void nesting() {
        B.sentence("the ninth ( that would be open within others", () -> {
            for (int deep = 0; deep <= 12; deep++) {
                String text = "fine " + "(".repeat(deep) + "1" + ")".repeat(deep);
                if (deep <= 8) {
                    B.is(0, new Played().tape(text), "text");
                } else {
                    fault(5 + 8, text);
                }
            }
            gives(2, "((((((((1))))))))+((((((((1))))))))");
            gives(3, "((((((((1)+1)))))))+1");
            gives(2, "(1)+(1)+(0)+(0)+(0)+(0)+(0)+(0)+(0)+(0)");
            fault(21, "fine !!!!!!!!(((((((((1");
            fault(17, "fine (((((((1+2*(((1");
            fault(17, "fine ((((((((1)))(((((1");
            fault(21, "fine ((((((((1)))+(((((1");
        });
        B.sentence("the ninth ! likewise, each by itself", () -> {
            for (int deep = 0; deep <= 12; deep++) {
                String text = "fine " + "!".repeat(deep) + "1";
                if (deep <= 8) {
                    gives(deep % 2 == 0 ? 1 : 0, "!".repeat(deep) + "1");
                } else {
                    fault(5 + 8, text);
                }
            }
            gives(2, "!!!!!!!!1+!!!!!!!!1");
            gives(1, "!!!!!!!!((((((((1))))))))");
            gives(1, "((((((((!!!!!!!!1))))))))");
            gives(1, "!(!(!(!(!(!(!(!(1))))))))");
            gives(2, "((((((((1+!!!!!!!!1))))))))");
            gives(0, "((((((((0*!!!!!!!!1))))))))");
            gives(1, "!!!!!!!!(1+(((((((1))))))))");
            fault(23, "fine ((((((((1+!!!!!!!!!1");
            gives(0, "!1+!1+!1+!1+!1+!1+!1+!1+!1");
            fault(21, "fine ((((((((!!!!!!!!!1");
            fault(21, "fine !(!(!(!(!(!(!(!(!1");
        });
    }

    private static void values() {
        B.sentence("Ints wrap; / is 0 by 0", () -> {
            gives(MIN, "8192*8192*32");
            gives(MAX, "8192*8192*32-1");
            gives(MIN, "8192*8192*32-1+1");
            gives(MIN, "8192*8192*32/(0-1)");
            gives(0, "8192*8192*64");
            gives(9999 * 9999 * 9999, "9999*9999*9999");
            gives(0, "1/0");
            gives(0, "0/0");
            gives(0, "8192*8192*32/0");
            gives(5, "5+7/(c-c)");
            gives(-3, "(0-7)/2");
            gives(-3, "7/(0-2)");
            gives(3, "(0-7)/(0-2)");
            gives(0, "1/2");
            gives(0, "(0-1)/2");
        });
        B.sentence("tests, & | ! give 1 or 0 (what is not 0 is true; both sides are worked out)", () -> {
            gives(1, "5&7");
            gives(1, "5&(0-7)");
            gives(0, "5&0");
            gives(0, "0&5");
            gives(0, "0&0");
            gives(1, "5|0");
            gives(1, "0|(0-5)");
            gives(1, "2|1");
            gives(0, "0|0");
            gives(0, "!5");
            gives(0, "!(0-1)");
            gives(1, "!0");
            gives(1, "1<2");
            gives(0, "2<2");
            gives(0, "3<2");
            gives(0, "1>2");
            gives(0, "2>2");
            gives(1, "3>2");
            gives(0, "1=2");
            gives(1, "2=2");
            gives(1, "0|1/0|1");
            gives(1, "8192*8192*32<0");
        });
    }

    private static void promises32To33() {
        B.sentence("Twelve bytes come to THE TAPE, the highest of each number first: how many it has. FULL: it would have more than 96.", () -> {
            Played p = new Played();
            B.is(12, p, "feed", 0x66696e65, 0x20312b32, 0x2a332020);
            B.is(0, p, "text");
            B.is(7, p, "fine");
            B.is(12, p, "feed", MIN, -1, MAX);
            B.is(96, p.times(6, "feed", 0, 0, 0), "feed", 0, 0, 0);
            B.refuses(FULL, q -> q.then("trim", 0).times(8, "feed", 0x66696e65, 0x20202020, 0x20202020), "feed", 0, 0, 0);
            B.refuses(FULL, q -> q.times(7, "feed", 0x2b312b31, 0x2b312b31, 0x2b312b31), "feed", 0, 0, 0);
            B.is(96, Rich.made().times(7, "feed", 0, 0, 0).then("trim", 84), "feed", 0, 0, 0);
            B.is(FULL, Rich.made().times(7, "feed", 0, 0, 0).then("trim", 85), "feed", 0, 0, 0);
        });
        B.sentence("THE TAPE keeps its first n bytes: n. BAD.", () -> {
            B.bounds("trim", 0, 0, Rich.TAPE, 0);
            Played p = new Played();
            B.is(0, p, "trim", 0);
            B.is(BAD, p, "trim", 1);
            B.is(BAD, p, "trim", -1);
            p.tape("fine 123+4");
            B.is(10, p, "trim", 10);
            B.is(8, p, "trim", 8);
            B.is(BAD, p, "trim", 9);
            B.is(0, p, "text");
            B.is(123, p, "fine");
            Played full = new Played().times(8, "feed", 0, 0, 0);
            B.is(BAD, full, "trim", 97);
            B.is(96, full, "trim", 96);
        });
    }

    private static void promises34To36() {
        Consumer<Played> emptied = p -> p.call("trim", 0);
        Consumer<Played> full = BoundsOfTextsTest::fill;
        B.sentence("THE TAPE is a TEXT: its number. -100 less the place of its FAULT; FULL.", () -> {
            B.is(Rich.TEXTS, Rich.made(), "text");
            B.refuses(-109, p -> p.call("trim", 9), emptied, "text");
            B.refuses(-107, p -> p.call("trim", 7), emptied, "text");
            B.refuses(-100, emptied, emptied, "text");
            B.refuses(FULL, full.andThen(p -> p.tape("term 9")), emptied, "text");
            B.refuses(-106, full.andThen(p -> p.tape("term 9?")), emptied, "text");
            B.refuses(-100, full, emptied, "text");
        });
        B.sentence("Of a TEXT: what 0 KEY (0 term, 1 fame, 2 fine), 1 how many NUMBERS and NAMES it has. BAD.", () -> {
            B.bounds("textTold", 0, 0, Rich.TEXTS - 1, 0, 0);
            B.bounds("textTold", 1, 0, 1, 0, 0);
            B.is(BAD, new Played(), "textTold", 0, 0);
            int[] keys = {0, 1, 2, 2};
            int[] many = {2, 3, 2, 2};
            for (int i = 0; i < Rich.TEXTS; i++) {
                B.is(keys[i], Rich.made(), "textTold", i, 0);
                B.is(many[i], Rich.made(), "textTold", i, 1);
            }
            Played p = new Played();
            p.text(wide("fine 1" + "+1".repeat(45), 96));
            B.is(46, p, "textTold", 0, 1);
            B.is(46, p, "fine");
            p.text("fine " + "!".repeat(8) + "((((((((1))))))))");
            B.is(1, p, "textTold", 1, 1);
        });
        B.sentence("The TEXT that counts for a KEY. BAD; NONE.", () -> {
            B.bounds("why", 0, 0, 2, 0);
            for (int key = 0; key < 3; key++) {
                B.is(NONE, new Played(), "why", key);
            }
            B.is(BAD, new Played(), "why", 3);
            B.is(BAD, new Played(), "why", -1);
            B.is(3, Rich.made(), "why", 2);
            B.is(1, Rich.made(), "why", 1);
            B.is(0, Rich.made(), "why", 0);
        });
    }

    /** The tape is emptied, and as many TEXTS come as there is room for. */
    private static void fill(Played p) {
        p.call("trim", 0);
        for (int i = Rich.TEXTS; i < 14; i++) {
            p.text("fame " + i);
        }
    }
}
