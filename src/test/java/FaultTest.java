import java.util.ArrayList;
import java.util.List;

/**
 * "FAULT: the first byte of the first word or sign with which no TEXT goes on":
 * by these words alone, without a grammar. Whether a TEXT goes on with a word
 * is found by trying ends; all rows of words are tried up to a length, and
 * longer ones where a limit stands.
 */
public final class FaultTest {
    private static final Due DUE = new Due("FaultTest");
    private static final String[] WORDS = {"k", "7", "(", ")", "!", "<", "=", "+", "/", "&", "|", "12345", "kk", "f", "~"};
    private static final String[] BEHIND = {"", " ", " +", "k", "~~"};
    private static final int TEXTS_OF_ONE = 50;

    private NineMasters x;
    private int texts;
    private int good;
    private int faults;

    public static void main(String[] args) {
        FaultTest test = new FaultTest();
        test.tryAll("term", 4);
        test.tryAll("term k<", 4);
        test.tryAll("term (k<7", 4);
        test.tryAll("term ((((((((", 3);
        test.tryAll("term k+(((((((", 3);
        test.tryAll("term !!!!!!!!", 3);
        test.tryAll("term !!(!!!(!!!", 3);
        test.tryAll("term (!(!(!(!(!(!(!(!", 3);
        test.tryAll("term (!(!(!(!(!(!(!(!k))))", 3);
        DUE.isTrue("both came often: " + test.good + " went on, " + test.faults + " did not", test.good > 3000 && test.faults > 20000);
        DUE.end();
    }

    /** The beginning can be gone on with; so can each row of words that comes here again. */
    private void tryAll(String beginning, int more) {
        for (String word : WORDS) {
            for (String blank : List.of("", " ")) {
                if (blank.isEmpty() && wouldBeOneWord(beginning, word)) {
                    continue;
                }
                int place = beginning.length() + blank.length();
                String row = beginning + blank + word;
                if (goesOn(row, isWord(word))) {
                    good++;
                    isTooShort(row);
                    if (more > 1 && (blank.isEmpty() || needsBlank(beginning, word))) {
                        tryAll(row, more - 1);
                    }
                } else {
                    isFault(row, place);
                }
            }
        }
    }

    /** A word's end must show, so nothing is put right behind one. */
    private boolean goesOn(String row, boolean endsInWord) {
        for (String end : ends(endsInWord ? " " : "")) {
            if (answer(row + end) == 0) {
                return true;
            }
        }
        return false;
    }

    private static List<String> ends(String blank) {
        List<String> ends = new ArrayList<>();
        for (String piece : List.of("", "k", "+k")) {
            for (int brackets = 0; brackets <= 9; brackets++) {
                ends.add(blank + piece + ")".repeat(brackets));
            }
        }
        return ends;
    }

    private void isFault(String row, int place) {
        for (String behind : BEHIND) {
            if (!wouldBeOneWord(row, behind)) {
                faults++;
                DUE.is("'" + row + behind + "'", answer(row + behind), -100 - place);
            }
        }
    }

    /** What can be gone on with is a TEXT, or its end comes too soon. */
    private void isTooShort(String row) {
        boolean whole = answer(row) == 0;
        DUE.is("'" + row + "'", answer(row), whole ? 0 : -100 - row.length());
        DUE.is("'" + row + "  '", answer(row + "  "), whole ? 0 : -100 - row.length() - 2);
    }

    private static boolean isWord(String word) {
        return sort(word.charAt(0)) != 0;
    }

    /** 1 of letters, 2 of digits, 0 of signs. */
    private static int sort(char c) {
        return c >= 'a' && c <= 'z' ? 1 : c >= '0' && c <= '9' ? 2 : 0;
    }

    private static boolean wouldBeOneWord(String row, String behind) {
        int sort = sort(row.charAt(row.length() - 1));
        return sort != 0 && !behind.isEmpty() && sort(behind.charAt(0)) == sort;
    }

    private static boolean needsBlank(String beginning, String word) {
        return isWord(word) && isWord(beginning.substring(beginning.length() - 1));
    }

    /** All TEXTS that are kept have number 0: each is forgotten by back. */
    private int answer(String text) {
        if (x == null || texts == TEXTS_OF_ONE) {
            x = new NineMasters();
            x.keep();
            texts = 0;
        }
        texts++;
        x.back();
        return Fed.text(x, text, true);
    }
}
