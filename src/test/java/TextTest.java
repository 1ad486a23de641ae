/** Promises 32 to 36, and what texts give by 3, 30 and 31. */
public final class TextTest {
    private static final int BAD = NineMasters.BAD;
    private static final int FULL = NineMasters.FULL;
    private static final int NONE = NineMasters.NONE;
    private static final int MIN = Integer.MIN_VALUE;
    private static final int MAX = Integer.MAX_VALUE;
    private static final Due DUE = new Due("TextTest");

    public static void main(String[] args) {
        feed();
        trim();
        values();
        keys();
        faults();
        nesting();
        everyByte();
        textTold();
        why();
        full();
        termInTakes();
        DUE.end();
    }

    private static void feed() {
        NineMasters x = new NineMasters();
        for (int i = 1; i <= 8; i++) {
            DUE.is("feed", x.feed(MIN, MAX, -1), 12 * i);
        }
        DUE.is("full", x.feed(0, 0, 0), FULL);
        DUE.is("96 stay", x.count(8), 96);
        x.trim(85);
        DUE.is("one too many", x.feed(0, 0, 0), FULL);
        x.trim(84);
        DUE.is("just", x.feed(0, 0, 0), 96);
        NineMasters y = new NineMasters();
        y.feed('t' << 24 | 'e' << 16 | 'r' << 8 | 'm', ' ' << 24 | '1' << 16 | '2' << 8 | '+', '3' << 24 | '4' << 16 | ' ' << 8 | ' ');
        DUE.is("the highest byte first", y.text(), 0);
        y.master(0, 0, 0, 0);
        DUE.is("12 + 34", y.told(0, 7), 46);
    }

    private static void trim() {
        NineMasters x = new NineMasters();
        DUE.is("none of none", x.trim(0), 0);
        DUE.is("one of none", x.trim(1), BAD);
        x.feed(0, 0, 0);
        for (int n : new int[] {-1, 13, MIN, MAX}) {
            DUE.is("wrong trim", x.trim(n), BAD);
        }
        DUE.is("all", x.trim(12), 12);
        DUE.is("some", x.trim(5), 5);
        DUE.is("they stay", x.count(8), 5);
        DUE.is("no more", x.trim(6), BAD);
        DUE.is("none", x.trim(0), 0);
        DUE.is("nothing is too soon", x.text(), -100);
    }

    private static void values() {
        String[] texts = {"0", "9999", "007", "2+3*4", "(2+3)*4", "20-3-4", "100/7/2", "7/0", "0/0", "(1-8)/2", "1<2", "2<1",
            "2<2", "2>1", "2=2", "2=3", "3&4", "3&0", "0|0", "0|9", "!0", "!7", "!!7", "!0+5", "!(0+5)", "1+1=2",
            "1<2&2<3", "(1<2)<3", "0&0|1", "1|0&0", "(1|0)&0", "9999*9999*9999", "9999*9999*9999*9999", "c", "d", "c-d*2",
            "! c", "!!!!!!!!c", "((((((((c))))))))", "1|1/0", "0-9999*9999*22/(0-1)", "2*3/4", "2/4*3", "c=100&d=9",
            "!(!(1))", "!1|1", "!1&1", "!2*3", "3-!0-!5"};
        int[] dues = {0, 9999, 7, 14, 20, 13, 7, 0, 0, -3, 1, 0, 0, 1, 1, 0, 1, 0, 0, 1, 1, 0, 1, 6, 0, 1, 1, 1, 1, 1, 0,
            9999 * 9999 * 9999, 9999 * 9999 * 9999 * 9999, 100, 9, 82, 0, 1, 100, 1, -(9999 * 9999 * 22) / -1, 1, 0, 1, 1, 1, 0, 0, 2};
        DUE.is("as many dues", texts.length, dues.length);
        for (int i = 0; i < texts.length; i++) {
            NineMasters x = new NineMasters();
            x.rests(9);
            DUE.is("fine " + texts[i], Fed.text(x, "fine " + texts[i], i % 2 == 0), 0);
            DUE.is("gives " + texts[i], x.fine(), dues[i]);
            StringBuilder wide = new StringBuilder();
            boolean digits = false;
            for (char c : texts[i].toCharArray()) {
                boolean digit = c >= '0' && c <= '9';
                wide.append(digits && digit ? "" : "  ").append(c);
                digits = digit;
            }
            if (wide.length() < 86) {
                DUE.is("with blanks " + texts[i], Fed.text(x, "  fine " + wide, i % 2 == 1), 1);
                DUE.is("gives the same", x.fine(), dues[i]);
            }
        }
    }

    private static void keys() {
        NineMasters x = new NineMasters();
        x.master(0, 0, 7, 33);
        x.set(0, 5, 61);
        DUE.is("term", Fed.text(x, "term k*50+g*5+a/9-30", true), 0);
        DUE.is("by g and a", x.told(0, 7), 35 + 6 - 30);
        DUE.is("fame", Fed.text(x, "fame(f)-a", true), 1);
        DUE.is("by f and a", x.fame(0), 33 - 61);
        DUE.is("fine", Fed.text(x, "fine!c+d", true), 2);
        DUE.is("by c and d", x.fine(), 0);
        int[][] allowed = {{'k', 'g', 'a'}, {'f', 'a'}, {'c', 'd'}};
        String[] words = {"term ", "fame ", "fine "};
        for (int key = 0; key < 3; key++) {
            for (char c = 'a'; c <= 'z'; c++) {
                boolean is = false;
                for (int a : allowed[key]) {
                    is |= a == c;
                }
                NineMasters y = new NineMasters();
                DUE.is(words[key] + c, Fed.text(y, words[key] + c, true), is ? 0 : -105);
            }
        }
    }

    private static void faults() {
        fault("", 0);
        fault("   ", 3);
        fault("term", 4);
        fault("term  ", 6);
        fault("term3", 4);
        fault("termk", 0);
        fault("terma 3", 0);
        fault("termz 3", 0);
        fault("term`3", 4);
        fault("term{3", 4);
        fault("ter 3", 0);
        fault("  foo 3", 2);
        fault("Term 3", 0);
        fault("3", 0);
        fault("(term 3)", 0);
        fault("term term", 5);
        fault("term 3 4", 7);
        fault("term 3k", 6);
        fault("term k3", 6);
        fault("term kk", 5);
        fault("term 12345", 5);
        fault("term 1+00001", 7);
        fault("term 1+", 7);
        fault("term 1+ ", 8);
        fault("term +1", 5);
        fault("term -1", 5);
        fault("term 1+*2", 7);
        fault("term 1<2<3", 8);
        fault("term 1<2=3", 8);
        fault("term 1<2&3<4>5", 12);
        fault("term 5>3=0|7", 8);
        fault("term 1<=2", 7);
        fault("term 1&&2", 7);
        fault("term 1||2", 7);
        fault("term ()", 6);
        fault("term (1", 7);
        fault("term (1))", 8);
        fault("term 1)", 6);
        fault("term (1 2)", 8);
        fault("term (1<2<3)", 9);
        fault("term !", 6);
        fault("term 1!", 6);
        fault("term 1!=2", 6);
        fault("term !&", 6);
        fault("term f", 5);
        fault("fame k", 5);
        fault("fine a", 5);
        fault("term 1\t+2", 6);
        fault("term 1%2", 6);
        fault("term\t1", 4);
        fault("fine 1 (2)", 7);
        fault("fine(1)(2)", 7);
        fault("fine(1)2", 7);
        fault("fine 2(1)", 6);
    }

    private static void fault(String text, int place) {
        NineMasters x = new NineMasters();
        DUE.is("'" + text + "'", Fed.text(x, text, true), -100 - place);
        DUE.is("it is used up", x.count(8), 0);
        DUE.is("no text came", x.count(6), 0);
    }

    private static void nesting() {
        fault("fine (((((((((1)))))))))", 13);
        fault("fine !!!!!!!!!1", 13);
        fault("fine !(!(!(!(!(!(!(!(!(", 21);
        fault("fine ((((((((!!!!!!!!!1))))))))", 21);
        fault("fine !!!!!!!!((((((((!1", 21);
        sound("fine ((((((((1))))))))+((((((((2))))))))", 3);
        sound("fine !!!!!!!!1+!!!!!!!!0", 1);
        sound("fine ((((((((!!!!!!!!7))))))))", 1);
        sound("fine !(!(!(!(!(!(!(!(0))))))))", 0);
        sound("fine !(!1+!1)+!(!1)", 2);
        sound("fine ((((((((!!!!!!!!1+!!!!!!!!1)+!!!!!!!!1)))))))", 3);
    }

    private static void sound(String text, int due) {
        NineMasters x = new NineMasters();
        DUE.is(text, Fed.text(x, text, true), 0);
        DUE.is(text, x.fine(), due);
    }

    /** Each byte behind 'fine 1': only blanks and what joins or goes on may stand there. */
    private static void everyByte() {
        for (int b = 0; b < 256; b++) {
            NineMasters x = new NineMasters();
            Fed.bytes(x, new int[] {'f', 'i', 'n', 'e', ' ', '1', b});
            boolean joins = "|&<=>+-*/".indexOf(b) >= 0;
            boolean goesOn = b == ' ' || b >= '0' && b <= '9';
            DUE.is("byte " + b, x.text(), goesOn ? 0 : joins ? -107 : -106);
        }
    }

    private static void textTold() {
        NineMasters x = new NineMasters();
        Fed.text(x, "fame (1+f)*!a|1", true);
        Fed.text(x, "term k", false);
        DUE.is("key", x.textTold(0, 0), 1);
        DUE.is("numbers and names", x.textTold(0, 1), 4);
        DUE.is("key", x.textTold(1, 0), 0);
        DUE.is("numbers and names", x.textTold(1, 1), 1);
        int[][] wrong = {{-1, 0}, {2, 0}, {14, 0}, {0, -1}, {0, 2}, {MIN, MAX}};
        for (int[] w : wrong) {
            DUE.is("wrong textTold", x.textTold(w[0], w[1]), BAD);
        }
        StringBuilder most = new StringBuilder("fine 1");
        while (most.length() < 96) {
            most.append(most.length() < 95 ? "+1" : " ");
        }
        DUE.is("the longest", Fed.text(x, most.toString(), true), 2);
        DUE.is("numbers", x.textTold(2, 1), 46);
        DUE.is("gives", x.fine(), 46);
    }

    private static void why() {
        NineMasters x = new NineMasters();
        for (int key : new int[] {-1, 3, MIN, MAX}) {
            DUE.is("wrong why", x.why(key), BAD);
        }
        Fed.text(x, "fine 1", true);
        Fed.text(x, "term 2", true);
        Fed.text(x, "fine 3", true);
        Fed.text(x, "fine 4+", true);
        DUE.is("term", x.why(0), 1);
        DUE.is("fame", x.why(1), NONE);
        DUE.is("fine", x.why(2), 2);
        DUE.is("that told last", x.fine(), 3);
    }

    private static void full() {
        NineMasters x = new NineMasters();
        for (int i = 0; i < 14; i++) {
            DUE.is("text", Fed.text(x, "fine " + i, true), i);
        }
        DUE.is("a fault stands first", Fed.text(x, "fine 9 9", true), -107);
        DUE.is("full", Fed.text(x, "fine 99", true), FULL);
        DUE.is("the tape is used up", x.count(8), 0);
        DUE.is("fourteen", x.count(6), 14);
        DUE.is("the last counts", x.fine(), 13);
        x.keep();
        DUE.is("back", x.back(), 0);
        DUE.is("still", x.why(2), 13);
    }

    private static void termInTakes() {
        NineMasters x = new NineMasters();
        for (int kind = 0; kind < 6; kind++) {
            x.master(kind, 0, kind, 0);
        }
        String[] texts = {"term 0-5", "term 1", "term 2", "term 3", "term 99", "term 1000", "term 9999*9999*9999"};
        int[] plain = {1, 1, 2, 3, 99, 99, 9999 * 9999 * 9999 < 1 ? 1 : 99};
        for (int i = 0; i < texts.length; i++) {
            DUE.is(texts[i], Fed.text(x, texts[i], true), i);
            int p = plain[i];
            int kind = Math.max(1, p - 1);
            int[] dues = {p, 2 * p, kind, 2 * p + 4, Math.max(1, kind / 2), 1};
            for (int m = 0; m < 6; m++) {
                DUE.is(texts[i] + " of " + m, x.told(m, 7), dues[m]);
            }
        }
        Fed.text(x, "term k*10+1", true);
        x.learn(4);
        x.learn(0);
        DUE.is("k is how many it knows when it begins", x.count(2), 1 + 11);
        DUE.is("k is two now", x.told(1, 7), 42);
        x.sheet(0, 0, 24);
        for (int k = 0; k < 24; k++) {
            x.mark(0, k, Math.min(99, 10 * k + 1));
        }
        DUE.is("cut by a text", x.cut(0, 0), 0);
        DUE.is("cut by a text", x.cut(0, 1), 0);
    }
}
