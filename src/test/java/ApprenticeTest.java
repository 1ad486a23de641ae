/** Promises 12 to 18: the apprentice. */
public final class ApprenticeTest {
    private static final int BAD = NineMasters.BAD;
    private static final int NO = NineMasters.NO;
    private static final int MIN = Integer.MIN_VALUE;
    private static final int MAX = Integer.MAX_VALUE;
    private static final Due DUE = new Due("ApprenticeTest");

    public static void main(String[] args) {
        apprentice();
        has();
        knows();
        go();
        learn();
        learnRefused();
        learnByKinds();
        forgettingInLearning();
        use();
        rests();
        lastDay();
        DUE.end();
    }

    private static void apprentice() {
        NineMasters x = new NineMasters();
        x.master(0, 2, 7, 30);
        x.road(0, 2, 4);
        x.go(2);
        x.learn(0);
        x.has(3, 55);
        DUE.is("at", x.apprentice(0), 2);
        DUE.is("knows", x.apprentice(1), 1 << 7);
        DUE.is("coins", x.apprentice(2), 70);
        DUE.is("forgets", x.apprentice(3), 55);
        for (int what : new int[] {-1, 4, MIN, MAX}) {
            DUE.is("wrong apprentice", x.apprentice(what), BAD);
        }
    }

    private static void has() {
        NineMasters x = new NineMasters();
        DUE.is("coins", x.has(2, 9999), 100);
        DUE.is("coins", x.has(2, 0), 9999);
        DUE.is("forgets", x.has(3, 99), 0);
        DUE.is("forgets", x.has(3, 0), 99);
        int[][] wrong = {{2, -1}, {2, 10000}, {3, -1}, {3, 100}, {0, 1}, {1, 1}, {4, 1}, {-1, 1}, {MIN, MAX}};
        for (int[] w : wrong) {
            DUE.is("wrong has", x.has(w[0], w[1]), BAD);
        }
        DUE.is("coins stay", x.apprentice(2), 0);
        DUE.is("forgets stays", x.apprentice(3), 0);
    }

    private static void knows() {
        NineMasters x = new NineMasters();
        x.master(0, 0, 1, 0);
        x.master(5, 0, 2, 0);
        x.learn(1);
        x.learn(0);
        DUE.is("from", x.knows(2, 0), 1);
        DUE.is("rest", x.knows(2, 1), 4);
        DUE.is("from", x.knows(1, 0), 0);
        DUE.is("rest", x.knows(1, 1), 0);
        DUE.is("it does not", x.knows(0, 0), NO);
        int[][] wrong = {{-1, 0}, {10, 0}, {1, -1}, {1, 2}, {0, 2}, {MIN, MAX}};
        for (int[] w : wrong) {
            DUE.is("wrong knows", x.knows(w[0], w[1]), BAD);
        }
        x.has(3, 2);
        DUE.is("nothing is forgotten before a day goes by", x.knows(2, 1), 4);
        DUE.is("then it is", x.rests(1), 2);
        DUE.is("it does no more", x.knows(2, 0), NO);
        x.learn(1);
        DUE.is("rest begins anew", x.knows(2, 1), 0);
    }

    private static void go() {
        NineMasters x = new NineMasters();
        x.road(0, 1, 2);
        x.road(1, 5, 9);
        DUE.is("no road, only a way", x.go(5), NO);
        DUE.is("where it is", x.go(0), BAD);
        for (int town : new int[] {-1, 6, MIN, MAX}) {
            DUE.is("wrong go", x.go(town), BAD);
        }
        DUE.is("go", x.go(1), 2);
        DUE.is("go", x.go(5), 11);
        DUE.is("at", x.apprentice(0), 5);
        DUE.is("where it is", x.go(5), BAD);
        DUE.is("back", x.go(1), 20);
    }

    private static void learn() {
        NineMasters x = new NineMasters();
        x.master(1, 0, 9, 100 - 1);
        DUE.is("learn", x.learn(0), 1 << 9);
        DUE.is("coins", x.apprentice(2), 1);
        DUE.is("days", x.count(2), 6);
        x.master(0, 0, 8, 1);
        DUE.is("with the last coin", x.learn(1), 3 << 8);
        DUE.is("coins", x.apprentice(2), 0);
        DUE.is("days for one with one", x.count(2), 10);
        for (int m : new int[] {-1, 2, 9, MIN, MAX}) {
            DUE.is("wrong learn", x.learn(m), BAD);
        }
    }

    private static void learnRefused() {
        NineMasters x = new NineMasters();
        x.master(0, 1, 0, 0);
        x.master(0, 0, 1, 50);
        x.master(0, 0, 2, 0);
        x.master(3, 0, 3, 0);
        x.master(0, 0, 1, 0);
        DUE.is("another town", x.learn(0), NO);
        x.has(2, 49);
        DUE.is("too dear", x.learn(1), NO);
        x.set(2, 6, 1);
        DUE.is("dead", x.learn(2), NO);
        DUE.is("stern", x.learn(3), NO);
        DUE.is("no day went by", x.count(2), 0);
        x.has(2, 50);
        DUE.is("just enough", x.learn(1), 2);
        DUE.is("known already", x.learn(4), NO);
        x.set(2, 6, 0);
        x.bars(2, 1, 0);
        DUE.is("barred", x.learn(2), NO);
    }

    private static void learnByKinds() {
        NineMasters x = new NineMasters();
        x.master(4, 0, 0, 0);
        x.master(4, 0, 1, 0);
        x.master(4, 0, 2, 0);
        x.master(2, 0, 3, 0);
        x.master(4, 0, 4, 0);
        x.master(3, 0, 5, 0);
        x.master(5, 0, 6, 0);
        x.bars(3, 0, 1);
        x.bars(4, 2, 3);
        x.bars(6, 4, 5);
        DUE.is("mild", x.learn(0), 1);
        DUE.is("mild", x.learn(1), 3);
        DUE.is("stern, to one with two", x.learn(5), NO);
        DUE.is("mild", x.learn(2), 7);
        DUE.is("a kind one unlearns", x.learn(3), 12);
        DUE.is("a mild one does not", x.learn(4), 28);
        DUE.is("stern, to one with three", x.learn(5), 60);
        DUE.is("sly, with both barred", x.learn(6), NO);
        x.bars(6, 4, 9);
        DUE.is("sly, with one barred", x.learn(6), 124);
        DUE.is("days", x.count(2), 1 + 1 + 2 + 5 + 2 + 16 + 1);
    }

    /** The days of a learning go by before what is barred is unlearnt and the gesture comes. */
    private static void forgettingInLearning() {
        NineMasters x = new NineMasters();
        x.master(5, 0, 0, 0);
        x.master(1, 0, 1, 0);
        x.has(3, 7);
        x.learn(0);
        DUE.is("forgotten on the way: 8 days are above 7", x.learn(1), 2);
        DUE.is("learnt anew", x.learn(0), 3);
        DUE.is("its days count for one with one", x.knows(1, 1), 1);
        x.master(2, 0, 2, 0);
        x.bars(2, 0, 1);
        DUE.is("both unlearnt", x.learn(2), 4);
        DUE.is("none else", x.knows(0, 0), NO);
    }

    private static void use() {
        NineMasters x = new NineMasters();
        x.master(5, 0, 0, 0);
        x.master(5, 0, 1, 0);
        x.has(3, 3);
        x.learn(0);
        x.learn(1);
        DUE.is("use", x.use(1), 3);
        DUE.is("its rest", x.knows(1, 1), 1);
        DUE.is("that of the other", x.knows(0, 1), 2);
        DUE.is("use", x.use(1), 3);
        DUE.is("the other is forgotten", x.use(1), 2);
        DUE.is("it does not know it", x.use(0), NO);
        DUE.is("the day", x.count(2), 5);
        for (int g : new int[] {-1, 10, MIN, MAX}) {
            DUE.is("wrong use", x.use(g), BAD);
        }
    }

    private static void rests() {
        NineMasters x = new NineMasters();
        x.master(0, 0, 3, 0);
        x.learn(0);
        DUE.is("never, at 0", x.rests(100), 8);
        DUE.is("rest", x.knows(3, 1), 100);
        for (int n : new int[] {0, -1, 101, MIN, MAX}) {
            DUE.is("wrong rests", x.rests(n), BAD);
        }
        DUE.is("the day", x.count(2), 103);
        x.has(3, 99);
        x.use(3);
        DUE.is("99 is not above 99", x.rests(98), 8);
        DUE.is("rest", x.knows(3, 1), 99);
        DUE.is("100 is", x.rests(1), 0);
    }

    private static void lastDay() {
        NineMasters x = new NineMasters();
        x.master(0, 0, 3, 0);
        x.learn(0);
        for (int i = 0; i < 100; i++) {
            x.rests(100);
        }
        DUE.is("9999 at most", x.count(2), 9999);
        DUE.is("rest goes on", x.knows(3, 1), 10000);
        x.road(0, 1, 5);
        DUE.is("go", x.go(1), 9999);
        x.wants(3);
        DUE.is("made", x.made(), 9999);
    }
}
