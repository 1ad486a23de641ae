import java.io.IOException;
import java.lang.reflect.Constructor;
import java.lang.reflect.Field;
import java.lang.reflect.Method;
import java.lang.reflect.Modifier;
import java.nio.file.Files;
import java.nio.file.Path;
import java.util.ArrayList;
import java.util.List;
import java.util.Set;
import java.util.TreeSet;
import java.util.regex.Matcher;
import java.util.regex.Pattern;

/** The rules of LANGUAGE.md that can be seen in the source or in the class, and the face by its names. */
public final class LanguageTest {
    private static final Path SOURCE = Path.of("src/main/java/NineMasters.java");
    private static final Due DUE = new Due("LanguageTest");
    private static final String FACE = "master4 told2 as2 turns2 set3 bars3 road3 far2 deal1 seed1 apprentice1 has2 knows2 go1 learn1 use1"
            + " rests1 wants1 clear0 made0 soonest1 together1 never0 last1 years1 gone1 fresh0 cut2 fame1 fine0 feed3 trim1 text0"
            + " textTold2 why1 sheet3 mark3 pour1 reads1 copy5 lay3 ask2 item2 rest2 tell1 check1 keep0 back0 count1";

    public static void main(String[] args) throws IOException {
        String code = withoutComments(Files.readString(SOURCE));
        words(code);
        library(code);
        sizes(code);
        face();
        inside();
        DUE.end();
    }

    private static String withoutComments(String source) {
        return source.replaceAll("(?s)/\\*.*?\\*/", "").replaceAll("//[^\n]*", "");
    }

    private static void words(String code) {
        for (String word : List.of("throw", "throws", "try", "catch", "finally", "synchronized", "assert", "import", "package",
                "protected", "native", "transient", "volatile", "strictfp", "var", "yield", "double", "float", "hashCode",
                "toString", "Object", "Exception", "Thread", "Random", "values")) {
            DUE.isTrue("no word " + word, !Pattern.compile("\\b" + word + "\\b").matcher(code).find());
        }
        for (String sign : List.of("->", "::", "@", "...", "\\u", "[][]")) {
            DUE.isTrue("no sign " + sign, !code.contains(sign));
        }
        DUE.isTrue("signs 1 to 127 alone", code.chars().allMatch(c -> c > 0 && c < 128));
        DUE.isTrue("no texts are joined by +", !Pattern.compile("\"\\s*\\+|\\+\\s*\"").matcher(code).find());
    }

    /** Rule 4: of the library only these. */
    private static void library(String code) {
        Set<String> used = new TreeSet<>();
        Matcher m = Pattern.compile("\\b(Math|Integer|Long|System|Arrays|List|Character|StringBuilder)\\s*\\.\\s*(\\w+)").matcher(code);
        while (m.find()) {
            used.add(m.group(1) + "." + m.group(2));
        }
        used.removeAll(Set.of("Math.max", "Math.min", "Math.abs", "Integer.bitCount", "System.arraycopy"));
        DUE.isTrue("nothing else of the library: " + used, used.isEmpty());
        int classes = code.split("\\bclass\\b", -1).length - 1;
        DUE.isTrue("some twelve classes at most", classes <= 12);
    }

    /** Rule 11: short methods, seven parameters. */
    private static void sizes(String code) {
        String[] lines = code.split("\n");
        int began = -1;
        for (int i = 0; i < lines.length; i++) {
            Matcher head = Pattern.compile("^( {4}| {8})(?! )(?!.*\\bclass\\b)[^=;]*\\((.*)\\) \\{$").matcher(lines[i]);
            if (head.find()) {
                began = i;
                DUE.isTrue("parameters of line " + lines[i], head.group(2).split(",").length <= 7);
            }
            if (began >= 0 && lines[i].matches(" {4,8}\\}")) {
                DUE.isTrue("length of " + lines[began], i - began <= 60);
                began = -1;
            }
        }
    }

    private static void face() {
        Set<String> due = new TreeSet<>(List.of(FACE.split(" ")));
        Set<String> open = new TreeSet<>();
        Set<String> hidden = new TreeSet<>();
        for (Method m : NineMasters.class.getDeclaredMethods()) {
            if (Modifier.isPublic(m.getModifiers())) {
                open.add(m.getName() + m.getParameterCount());
                DUE.isTrue("answers an int: " + m, m.getReturnType() == int.class && !Modifier.isStatic(m.getModifiers()));
            } else {
                DUE.isTrue("private: " + m, Modifier.isPrivate(m.getModifiers()));
                hidden.add(m.getName());
            }
        }
        DUE.isTrue("the face " + open, open.equals(due));
        for (String name : due) {
            DUE.isTrue("no hidden method " + name, !hidden.contains(name.replaceAll("\\d", "")));
        }
        int constants = 0;
        for (Field f : NineMasters.class.getDeclaredFields()) {
            constants += Modifier.isPublic(f.getModifiers()) ? 1 : 0;
            DUE.isTrue("public or private: " + f, (f.getModifiers() & (Modifier.PUBLIC | Modifier.PRIVATE)) != 0);
            DUE.isTrue("static ones are final: " + f, !Modifier.isStatic(f.getModifiers()) || Modifier.isFinal(f.getModifiers()));
        }
        DUE.is("eight constants", constants, 8);
        Constructor<?>[] made = NineMasters.class.getDeclaredConstructors();
        DUE.isTrue("one constructor", made.length == 1 && Modifier.isPublic(made[0].getModifiers()) && made[0].getParameterCount() == 0);
        DUE.isTrue("public and final", (NineMasters.class.getModifiers() & (Modifier.PUBLIC | Modifier.FINAL)) == (Modifier.PUBLIC | Modifier.FINAL));
    }

    private static void inside() {
        List<String> faceNames = new ArrayList<>();
        for (String name : FACE.split(" ")) {
            faceNames.add(name.replaceAll("\\d", ""));
        }
        for (Class<?> c : NineMasters.class.getDeclaredClasses()) {
            DUE.isTrue("static: " + c, Modifier.isStatic(c.getModifiers()));
            int fields = 0;
            for (Field f : c.getDeclaredFields()) {
                fields += Modifier.isStatic(f.getModifiers()) ? 0 : 1;
                DUE.isTrue("static ones are final: " + f, !Modifier.isStatic(f.getModifiers()) || Modifier.isFinal(f.getModifiers()));
            }
            DUE.isTrue("some twenty fields: " + c, fields <= 20);
            for (Method m : c.getDeclaredMethods()) {
                DUE.isTrue("bears no name of the face: " + m, !faceNames.contains(m.getName()));
                DUE.isTrue("seven parameters: " + m, m.getParameterCount() <= 7);
            }
        }
    }
}
