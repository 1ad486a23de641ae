import java.util.ArrayList;
import java.util.List;

/** All that can be asked of an object, in three parts, each short enough for its 512 calls; asking changes it. */
final class Seen {
    static final int PARTS = 3;

    private final Played p;
    private final List<String> calls = new ArrayList<>();
    private final List<Integer> answers = new ArrayList<>();

    Seen(Played p, int part) {
        this.p = p;
        if (part == 0) {
            now();
        } else if (part == 1) {
            slots();
            sheets();
        } else {
            rows();
        }
    }

    /** AGES of all MASTERS. */
    static int[] ages(Played p) {
        int[] ages = new int[p.call("count", 0)];
        for (int m = 0; m < ages.length; m++) {
            ages[m] = p.call("told", m, 5);
        }
        return ages;
    }

    /** The first call that two answer otherwise, or null. */
    String differsFrom(Seen other) {
        for (int i = 0; i < answers.size(); i++) {
            if (!answers.get(i).equals(other.answers.get(i))) {
                return calls.get(i) + " answers " + answers.get(i) + " instead of " + other.answers.get(i);
            }
        }
        return null;
    }

    private void ask(String name, int... a) {
        calls.add(name + java.util.Arrays.toString(a));
        answers.add(p.call(name, a));
    }

    private void askEach(String name, int bound) {
        for (int i = 0; i < bound; i++) {
            ask(name, i);
        }
    }

    private void askEachTwo(String name, int bound, int otherBound) {
        for (int i = 0; i < bound; i++) {
            for (int j = 0; j < otherBound; j++) {
                ask(name, i, j);
            }
        }
    }

    private void now() {
        askEach("count", 10);
        askEach("apprentice", 4);
        askEachTwo("told", 9, 10);
        askEach("fame", 9);
        askEachTwo("knows", 10, 2);
        askEach("why", 3);
        askEachTwo("textTold", 5, 2);
        ask("textTold", 13, 0);
        ask("fine");
        askEachTwo("far", 6, 6);
        askEach("soonest", 3);
        ask("gone", 30);
        ask("made");
        askEachTwo("knows", 10, 2);
        ask("years", 5);
        ask("count", 9);
        ask("clear");
        for (int one = 0; one < 6; one++) {
            for (int other = 0; other < one; other++) {
                ask("road", one, other, 0);
            }
        }
    }

    private void slots() {
        for (int slot = 0; slot < 5; slot++) {
            for (int kind = 0; kind < 6; kind++) {
                ask("ask", slot, kind);
            }
            for (int place = 0; place < 25; place++) {
                ask("item", slot, place);
            }
            ask("rest", slot, Integer.MIN_VALUE);
            ask("lay", slot, 0, 0);
        }
    }

    private void sheets() {
        for (int sheet = 0; sheet < 4; sheet++) {
            ask("reads", sheet);
            ask("lay", 0, 2, sheet);
            for (int place = 0; place < 25; place++) {
                ask("item", 0, place);
            }
            ask("mark", sheet, 0, NineMasters.NONE);
            ask("lay", 0, 0, 0);
        }
    }

    /** What waits and the tape can be asked once; then all is as the image, and that is asked. */
    private void rows() {
        ask("count", 7);
        ask("count", 8);
        ask("check", 3);
        ask("text");
        ask("fine");
        ask("told", 0, 7);
        ask("back");
        now();
    }
}
