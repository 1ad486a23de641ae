import java.io.IOException;
import java.nio.file.Files;
import java.nio.file.Path;
import java.util.Arrays;
import java.util.function.Consumer;

/**
 * Tests of single sentences of the document. Each is quoted, so that a failure
 * names the sentence that is broken, and each must look at one answer at least.
 */
final class Bounds {
    static final int BAD = NineMasters.BAD;
    static final int NO = NineMasters.NO;
    static final int FULL = NineMasters.FULL;
    static final int NONE = NineMasters.NONE;
    static final int NOTHING = NineMasters.NOTHING;
    static final int KIND = NineMasters.KIND;
    static final int INDEX = NineMasters.INDEX;
    static final int SIZE = NineMasters.SIZE;
    static final int MIN = Integer.MIN_VALUE;
    static final int MAX = Integer.MAX_VALUE;

    private static final Path DOCUMENT = Path.of("../shared/DOC.md");
    private static final Consumer<Played> AS_IT_IS = p -> { };

    private final Due due;
    private final String document;
    private String sentence = "";
    private int looked;

    Bounds(String test) {
        due = new Due(test);
        document = document();
    }

    private static String document() {
        try {
            return Files.exists(DOCUMENT) ? flat(Files.readString(DOCUMENT)) : null;
        } catch (IOException unreadable) {
            throw new IllegalStateException(unreadable);
        }
    }

    private static String flat(String text) {
        return text.replaceAll("\\s+", " ");
    }

    /** One sentence of the document, in its own words, with the test of it. */
    void sentence(String quote, Runnable test) {
        sentence = quote;
        looked = 0;
        if (document != null && !document.contains(flat(quote))) {
            System.out.println("The document has other words by now than these, read their test again: " + quote);
        }
        test.run();
        due.isTrue("is looked at: " + quote, looked > 0);
    }

    void end() {
        due.end();
    }

    void is(int want, Played p, String name, int... a) {
        looked++;
        due.is("\"" + sentence + "\": " + name + Arrays.toString(a), p.call(name, a), want);
    }

    void holds(String what, boolean is) {
        looked++;
        due.isTrue("\"" + sentence + "\": " + what, is);
    }

    /** On a rich object the call is refused, and nothing is otherwise then. */
    void refuses(int want, String name, int... a) {
        refuses(want, AS_IT_IS, name, a);
    }

    /** The same behind some calls more. */
    void refuses(int want, Consumer<Played> opening, String name, int... a) {
        refuses(want, opening, AS_IT_IS, name, a);
    }

    /** The same, but for what these last calls do to a twin that the refused call is kept from. */
    void refuses(int want, Consumer<Played> opening, Consumer<Played> instead, String name, int... a) {
        for (int part = 0; part < Seen.PARTS; part++) {
            Played refusing = Rich.made();
            Played twin = Rich.made();
            opening.accept(refusing);
            opening.accept(twin);
            is(want, refusing, name, a);
            instead.accept(twin);
            String differs = new Seen(refusing, part).differsFrom(new Seen(twin, part));
            holds(name + Arrays.toString(a) + " changes nothing: " + differs, differs == null);
        }
    }

    /**
     * An argument may be least .. most and nothing outside: both ends are taken
     * by a rich object, what stands outside is BAD and changes nothing.
     */
    void bounds(String name, int place, int least, int most, int... good) {
        bounds(AS_IT_IS, name, place, least, most, good);
    }

    void bounds(Consumer<Played> opening, String name, int place, int least, int most, int... good) {
        for (int v : new int[] {least, most}) {
            Played p = Rich.made();
            opening.accept(p);
            int[] a = with(good, place, v);
            holds(name + Arrays.toString(a) + " is not refused", p.call(name, a) != BAD);
        }
        for (int v : new int[] {least - 1, most + 1, MIN, MAX}) {
            refuses(BAD, opening, name, with(good, place, v));
        }
    }

    private static int[] with(int[] good, int place, int v) {
        int[] a = good.clone();
        a[place] = v;
        return a;
    }
}
