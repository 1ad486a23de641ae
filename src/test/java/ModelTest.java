import java.lang.reflect.Method;
import java.util.ArrayList;
import java.util.Comparator;
import java.util.List;
import java.util.Random;

/** Plays drawn runs of 512 calls on the class and on Plain, side by side; each answer must be the same. */
public final class ModelTest {
    private static final int[] EDGES = {Integer.MIN_VALUE, Integer.MAX_VALUE, -1, -2, 100, 1000, 10000, NineMasters.NONE, NineMasters.BAD};
    private static final Due DUE = new Due("ModelTest");

    private final Random random;
    private final NineMasters x = new NineMasters();
    private final Plain plain = new Plain();
    private final StringBuilder story = new StringBuilder();
    private final List<Method> calls;
    private int calledSoFar;

    private ModelTest(long seed, List<Method> calls) {
        random = new Random(seed);
        this.calls = calls;
    }

    public static void main(String[] args) throws ReflectiveOperationException {
        int runs = args.length > 0 ? Integer.parseInt(args[0]) : 400;
        int first = args.length > 1 ? Integer.parseInt(args[1]) : 0;
        List<Method> calls = new ArrayList<>();
        for (Method m : NineMasters.class.getDeclaredMethods()) {
            if (java.lang.reflect.Modifier.isPublic(m.getModifiers())) {
                calls.add(m);
            }
        }
        calls.sort(Comparator.comparing(Method::getName));
        DUE.is("calls of the face", calls.size(), 49);
        for (int run = 0; run < runs && !DUE.failed(); run++) {
            new ModelTest(first + run, calls).play();
        }
        DUE.end();
    }

    private void play() throws ReflectiveOperationException {
        opening();
        while (calledSoFar < 512 && !DUE.failed()) {
            int turn = random.nextInt(100);
            if (turn < 6) {
                tellText();
            } else if (turn < 10) {
                tellYears();
            } else if (turn < 18) {
                travel();
            } else if (turn < 24) {
                call("soonest", random.nextInt(3));
            } else {
                Method m = calls.get(random.nextInt(calls.size()));
                int[] a = new int[m.getParameterCount()];
                for (int i = 0; i < a.length; i++) {
                    a[i] = argument(m.getName(), i);
                }
                call(m.getName(), a);
            }
        }
    }

    /** Most runs begin with masters, roads and coins, so that there is something to do. */
    private void opening() throws ReflectiveOperationException {
        if (random.nextInt(8) == 0) {
            return;
        }
        call("seed", random.nextInt());
        call("deal", 1 + random.nextInt(9));
        for (int i = 0; i < 7; i++) {
            call("road", random.nextInt(6), random.nextInt(6), random.nextInt(10));
        }
        for (int m = 0; m < 9; m++) {
            call("bars", m, random.nextInt(10), random.nextInt(10));
            if (random.nextInt(3) == 0) {
                call("set", m, 5, 40 + random.nextInt(60));
            }
        }
        call("has", 2, random.nextInt(10000));
        call("has", 3, random.nextBoolean() ? 0 : random.nextInt(60));
    }

    private void travel() throws ReflectiveOperationException {
        int master = random.nextInt(9);
        int town = x.told(master, 1);
        if (town >= 0) {
            call("go", town);
        }
        call("learn", master);
        if (random.nextBoolean()) {
            call("wants", random.nextInt(10));
        }
    }

    private int argument(String name, int place) {
        if (random.nextInt(25) == 0) {
            return EDGES[random.nextInt(EDGES.length)];
        }
        if (name.equals("seed") || name.equals("feed")) {
            return random.nextInt();
        }
        if (name.equals("together")) {
            return 1 << random.nextInt(10) | 1 << random.nextInt(10) | 1 << random.nextInt(10);
        }
        if (name.equals("mark") && place == 2) {
            return random.nextInt(6) == 0 ? NineMasters.NONE : random.nextInt(5) == 0 ? random.nextInt() : random.nextInt(110) - 5;
        }
        if (name.equals("rests") || name.equals("years") || name.equals("gone")) {
            return random.nextInt(random.nextInt(4) == 0 ? 103 : 12);
        }
        if (name.equals("sheet")) {
            return place == 0 ? random.nextInt(4) : place == 1 ? random.nextInt(4) - 1 : random.nextInt(28) - 1;
        }
        if (name.equals("copy")) {
            return random.nextInt(place == 0 || place == 2 ? 4 : 9);
        }
        if (name.equals("has")) {
            return place == 0 ? 1 + random.nextInt(3) : random.nextInt(120);
        }
        return random.nextInt(random.nextInt(3) == 0 ? 13 : 6);
    }

    private void tellText() throws ReflectiveOperationException {
        int key = random.nextInt(3);
        String text = List.of("term", "fame", "fine").get(key) + (random.nextInt(9) == 0 ? "" : " ") + expression(key, 3);
        if (random.nextInt(3) == 0) {
            int at = random.nextInt(text.length());
            String put = " k3(!)<=+a|~5".substring(random.nextInt(13)).substring(0, 1);
            text = text.substring(0, at) + (random.nextBoolean() ? put : "") + text.substring(at + random.nextInt(2));
        }
        while (random.nextInt(3) == 0) {
            text += " ";
        }
        text = text.length() > 96 ? text.substring(0, 96) : text;
        call("trim", 0);
        for (int at = 0; at < text.length(); at += 12) {
            int[] a = new int[3];
            for (int i = 0; i < 12; i++) {
                a[i / 4] = a[i / 4] << 8 | (at + i < text.length() ? text.charAt(at + i) : 0);
            }
            call("feed", a);
        }
        call("trim", text.length());
        call("text");
    }

    private String expression(int key, int depth) {
        String names = List.of("kga", "fa", "cd").get(key);
        if (depth == 0 || random.nextInt(4) == 0) {
            int n = random.nextInt(12);
            return n < 5 ? "" + names.charAt(random.nextInt(names.length())) : n < 11 ? "" + random.nextInt(12) : "" + random.nextInt(13000);
        }
        String blank = random.nextInt(5) == 0 ? " " : "";
        switch (random.nextInt(6)) {
            case 0: return "!" + blank + expression(key, depth - 1);
            case 1: return "(" + expression(key, depth - 1) + blank + ")";
            default:
                String sign = "|&<=>+-*/+-*/".charAt(random.nextInt(13)) + blank;
                return expression(key, depth - 1) + blank + sign + expression(key, depth - 1);
        }
    }

    private void tellYears() throws ReflectiveOperationException {
        int n = 1 + random.nextInt(5);
        if (plain.image == null || random.nextInt(6) == 0) {
            call("keep");
        }
        List<Integer> due = plain.yearsTold(n);
        int many = random.nextInt(4) == 0 ? random.nextInt(2 * n + 1) : 2 * n;
        int wrong = random.nextInt(3) == 0 ? random.nextInt(2 * n) : -1;
        for (int i = 0; i < many; i++) {
            call("tell", due.get(i) + (i == wrong ? 1 : 0));
        }
        call("check", n);
    }

    private void call(String name, int... a) throws ReflectiveOperationException {
        if (calledSoFar >= 512 || DUE.failed()) {
            return;
        }
        calledSoFar++;
        for (Method m : calls) {
            if (m.getName().equals(name)) {
                Object[] boxed = new Object[a.length];
                for (int i = 0; i < a.length; i++) {
                    boxed[i] = a[i];
                }
                int got = (Integer) m.invoke(x, boxed);
                String row = name + java.util.Arrays.toString(a);
                story.append(row).append(" = ").append(got).append('\n');
                DUE.is(row, got, plain.answer(name, a.clone()));
            }
        }
        if (DUE.failed()) {
            System.out.println(story);
        }
    }
}
