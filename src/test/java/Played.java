import java.lang.reflect.Method;
import java.lang.reflect.Modifier;
import java.util.HashMap;
import java.util.Map;

/** An object of the class, called by names; behind the 512th call the document promises nothing, so there is none. */
final class Played {
    private static final Map<String, Method> FACE = face();
    private static final int CALLS_MOST = 512;

    private final NineMasters x = new NineMasters();
    private int calls;

    private static Map<String, Method> face() {
        Map<String, Method> face = new HashMap<>();
        for (Method m : NineMasters.class.getDeclaredMethods()) {
            if (Modifier.isPublic(m.getModifiers())) {
                face.put(m.getName(), m);
            }
        }
        return face;
    }

    int call(String name, int... a) {
        calls++;
        if (calls > CALLS_MOST) {
            throw new IllegalStateException("a test calls one object more than 512 times, the last time " + name);
        }
        Object[] boxed = new Object[a.length];
        for (int i = 0; i < a.length; i++) {
            boxed[i] = a[i];
        }
        try {
            return (Integer) FACE.get(name).invoke(x, boxed);
        } catch (ReflectiveOperationException thrown) {
            throw new IllegalStateException(name + java.util.Arrays.toString(a), thrown);
        }
    }

    /** The same call again and again. */
    Played times(int many, String name, int... a) {
        for (int i = 0; i < many; i++) {
            call(name, a);
        }
        return this;
    }

    /** Calls it for what it does alone. */
    Played then(String name, int... a) {
        call(name, a);
        return this;
    }

    /** Brings bytes to THE TAPE, which has none. */
    Played tape(int... bytes) {
        for (int at = 0; at < bytes.length; at += 12) {
            int[] three = new int[3];
            for (int i = 0; i < 12; i++) {
                int b = at + i < bytes.length ? bytes[at + i] : 0;
                three[i / 4] = three[i / 4] << 8 | b & 255;
            }
            call("feed", three);
        }
        call("trim", bytes.length);
        return this;
    }

    Played tape(String text) {
        return tape(text.chars().toArray());
    }

    /** What text() answers to these bytes. */
    int text(String text) {
        return tape(text).call("text");
    }

    /** One MASTER more, without BARS, in TOWN 0, for nothing. */
    Played master(int kind, int gesture) {
        return then("master", kind, 0, gesture, 0);
    }

    /** THE DAY becomes this one, from 0 on, by nothing but rest. */
    Played restUntil(int day) {
        times(day / 100, "rests", 100);
        return day % 100 == 0 ? this : then("rests", day % 100);
    }
}
