import java.io.IOException;
import java.nio.file.Files;
import java.nio.file.Path;
import java.util.regex.Matcher;
import java.util.regex.Pattern;

/** Plays the calls that README.md shows: each must answer what stands behind it there. */
public final class ReadmeTest {
    private static final Due DUE = new Due("ReadmeTest");
    private static final Pattern BLOCK = Pattern.compile("(?s)```java\n(.*?)```");
    private static final Pattern CALL = Pattern.compile("x\\.(\\w+)\\(([^)]*)\\); +// (-?\\w+).*");
    private static final String BEGINNING = "NineMasters x = new NineMasters();";

    public static void main(String[] args) throws IOException, ReflectiveOperationException {
        Matcher block = BLOCK.matcher(Files.readString(Path.of("README.md")));
        int blocks = 0;
        while (block.find()) {
            play(block.group(1).split("\n"));
            blocks++;
        }
        DUE.isTrue("calls are shown", blocks > 0);
        DUE.end();
    }

    private static void play(String[] lines) throws ReflectiveOperationException {
        Played x = new Played();
        DUE.isTrue("a new object is made first: " + lines[0], lines[0].equals(BEGINNING));
        for (int i = 1; i < lines.length; i++) {
            Matcher call = CALL.matcher(lines[i]);
            boolean read = call.matches();
            DUE.isTrue("a call with its answer: " + lines[i], read);
            if (read) {
                DUE.is(lines[i], x.call(call.group(1), arguments(call.group(2))), answer(call.group(3)));
            }
        }
    }

    private static int[] arguments(String shown) {
        String[] each = shown.isEmpty() ? new String[0] : shown.split(", *");
        int[] a = new int[each.length];
        for (int i = 0; i < a.length; i++) {
            a[i] = Integer.decode(each[i]);
        }
        return a;
    }

    private static int answer(String shown) throws ReflectiveOperationException {
        return Character.isUpperCase(shown.charAt(0)) ? NineMasters.class.getField(shown).getInt(null) : Integer.decode(shown);
    }
}
