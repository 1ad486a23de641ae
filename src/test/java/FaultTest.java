import java.util.ArrayList;
import java.util.List;

/**
 * "FAULT: the first byte of the first word or sign with which no TEXT goes on":
 * whether a TEXT goes on with a word is found by trying ends, and must be what
 * a list of the words that may stand behind one another says. All rows of
 * words are tried up to a length, and longer ones where a limit stands.
 */
public final class FaultTest {
    private static final Due DUE = new Due("FaultTest");
    private static final String[] WORDS = {"k", "7", "1234", "(", ")", "!", "<", "=", ">", "+", "-", "*", "/", "&", "|", "12345", "kk", "f", "~"};
    private static final String[] BEHIND = {"", " ", " +", "k", "~~"};
    private static final int TEXTS_OF_ONE = 50;

    private NineMasters x;
    private int texts;
    private int good;
    private int faults;

    public static void main(String[] args) {
        FaultTest test = new FaultTest();
        test.tryBehind("", 4);
        test.tryBehind("k<", 3);
        test.tryBehind("(k<7", 3);
        test.tryBehind("k<7&k", 3);
        test.tryBehind("((((((((", 3);
        test.tryBehind("k+(((((((", 3);
        test.tryBehind("((((((((k))))))))+", 3);
        test.tryBehind("!!!!!!!!", 3);
        test.tryBehind("!!!!!!!!k=", 3);
        test.tryBehind("!!(!!!(!!!", 3);
        test.tryBehind("!!(!!!(!!k", 3);
        test.tryBehind("(!(!(!(!(!(!(!(!", 3);
        test.tryBehind("(!(!(!(!(!(!(!(!k))))", 3);
        DUE.isTrue("both came often: " + test.good + " went on, " + test.faults + " did not", test.good > 5000 && test.faults > 50000);
        DUE.end();
    }

    /** Each sign of the beginning is a word by itself. */
    private void tryBehind(String beginning, int more) {
        Reader reader = new Reader();
        for (int i = 0; i < beginning.length(); i++) {
            DUE.isTrue("is a beginning: " + beginning, reader.takes(beginning.substring(i, i + 1), false));
        }
        tryAll("term " + beginning, reader, more);
        if (beginning.isEmpty()) {
            tryAll("term", reader, 1);
        }
    }

    /** The beginning can be gone on with; so can each row of words that comes here again. */
    private void tryAll(String beginning, Reader reader, int more) {
        for (String word : WORDS) {
            for (String blank : List.of("", " ")) {
                if (!blank.isEmpty() || !wouldBeOneWord(beginning, word)) {
                    tryWord(beginning, blank, word, new Reader(reader), more);
                }
            }
        }
    }

    private void tryWord(String beginning, String blank, String word, Reader reader, int more) {
        String row = beginning + blank + word;
        boolean rightBehind = blank.isEmpty() && isWord(word) && isWord(beginning.substring(beginning.length() - 1));
        boolean taken = reader.takes(word, rightBehind);
        DUE.isTrue("'" + row + "' goes on: " + taken, goesOn(row) == taken);
        if (!taken) {
            isFault(row, row.length() - word.length());
            return;
        }
        good++;
        isTextOrTooShort(row);
        if (more > 1 && (blank.isEmpty() || isWord(word))) {
            tryAll(row, reader, more - 1);
        }
    }

    /** A blank ahead of the end, so that it makes no word longer. */
    private boolean goesOn(String row) {
        for (String piece : List.of(" ", " k")) {
            for (int brackets = 0; brackets <= 9; brackets++) {
                if (answer(row + piece + ")".repeat(brackets)) == 0) {
                    return true;
                }
            }
        }
        return false;
    }

    private void isFault(String row, int place) {
        for (String behind : BEHIND) {
            if (!wouldBeOneWord(row, behind)) {
                faults++;
                DUE.is("'" + row + behind + "'", answer(row + behind), -100 - place);
            }
        }
    }

    private void isTextOrTooShort(String row) {
        boolean whole = answer(row) == 0;
        DUE.is("'" + row + "'", answer(row), whole ? 0 : -100 - row.length());
        DUE.is("'" + row + "  '", answer(row + "  "), whole ? 0 : -100 - row.length() - 2);
    }

    private static boolean isWord(String word) {
        return sort(word.charAt(0)) != 0;
    }

    /** 1 of letters, 2 of digits, 0 of signs. */
    private static int sort(char c) {
        return c >= 'a' && c <= 'z' ? 1 : c >= '0' && c <= '9' ? 2 : 0;
    }

    private static boolean wouldBeOneWord(String row, String behind) {
        int sort = sort(row.charAt(row.length() - 1));
        return sort != 0 && !behind.isEmpty() && sort(behind.charAt(0)) == sort;
    }

    /** Each TEXT that comes has number 0: those before it are gone by back. */
    private int answer(String text) {
        if (x == null || texts == TEXTS_OF_ONE) {
            x = new NineMasters();
            x.keep();
            texts = 0;
        }
        texts++;
        x.back();
        return Fed.text(x, text, true);
    }

    /** Which word may stand behind those before it, word by word, without levels. */
    private static final class Reader {
        private static final int MOST = 8;
        private boolean wantsPiece = true;
        private int bangs;
        /** For each bracket that is open: the ! that were open ahead of it. */
        private final List<Integer> bangsAhead = new ArrayList<>();
        /** The same, and outside of all: whether its test has its sign. */
        private final List<Boolean> compared = new ArrayList<>(List.of(false));

        Reader() {
        }

        Reader(Reader other) {
            wantsPiece = other.wantsPiece;
            bangs = other.bangs;
            bangsAhead.addAll(other.bangsAhead);
            compared.clear();
            compared.addAll(other.compared);
        }

        boolean takes(String word, boolean rightBehindAnother) {
            if (wantsPiece) {
                return !rightBehindAnother && takesPiece(word);
            }
            switch (word) {
                case ")": return closes();
                case "<": case "=": case ">": return compares();
                case "&": case "|":
                    compared.set(bangsAhead.size(), false);
                    wantsPiece = true;
                    return true;
                case "+": case "-": case "*": case "/":
                    wantsPiece = true;
                    return true;
                default: return false;
            }
        }

        private boolean takesPiece(String word) {
            switch (word) {
                case "k": case "7": case "1234":
                    endPiece();
                    return true;
                case "!":
                    bangs++;
                    return bangs <= MOST;
                case "(":
                    bangsAhead.add(bangs);
                    compared.add(false);
                    return bangsAhead.size() <= MOST;
                default: return false;
            }
        }

        private boolean closes() {
            if (bangsAhead.isEmpty()) {
                return false;
            }
            bangsAhead.remove(bangsAhead.size() - 1);
            compared.remove(compared.size() - 1);
            endPiece();
            return true;
        }

        /** All ! since the innermost bracket that is open were ahead of this piece. */
        private void endPiece() {
            wantsPiece = false;
            bangs = bangsAhead.isEmpty() ? 0 : bangsAhead.get(bangsAhead.size() - 1);
        }

        private boolean compares() {
            if (compared.get(bangsAhead.size())) {
                return false;
            }
            compared.set(bangsAhead.size(), true);
            wantsPiece = true;
            return true;
        }
    }
}
