import java.lang.reflect.InvocationTargetException;
import java.lang.reflect.Method;
import java.lang.reflect.Modifier;
import java.util.Arrays;
import java.util.Comparator;
import java.util.Set;

/**
 * Any arguments in any state: nothing is thrown, the same calls give the same answers, and calls
 * that only ask leave all as it was.
 */
public final class HardyTest {
    private static final long[] EDGES = {Long.MIN_VALUE, Integer.MIN_VALUE, -2, -1, 0, 1, 2, 3, 4, 5, 7, 8, 9, 11, 12,
        16, 59, 60, 61, 99, 100, 2000000000, 2000000001, Integer.MAX_VALUE, Long.MAX_VALUE};
    private static final Set<String> ACTS = Set.of("feed", "end", "valley", "say", "undo", "anew", "rate", "image",
            "back", "row", "write", "paste");
    private static final String[] TEXTS = {
        "valley pairs 4 hours 12 odds 100;want 0 at 11 worth 99 late;want 7 at 11 worth 99 late to 0;lend 0 to 7 at 11;"
            + "lend 7 to 0 at 11;job from 0 to 11 pays 999;job from 11 to 11 pays 999;",
        "valley pairs 1 hours 1 odds 0;want 0 at 0 worth 1 whisper;want 1 at 0 worth 1 whisper;",
        "valley pairs 2 hours 4 odds 50;want 0 at 1 worth 5;want 2 at 3 worth 9 late;want 3 at 2 worth 7 late;lend 2 to 0 at 2;",
        "valley pairs 3 hours 2", " "};

    private static long state = 7L;

    private static int below(int n) {
        state = state * 6364136223846793005L + 1442695040888963407L;
        return (int) ((state >>> 33) % n);
    }

    private static Object argument(Class<?> type) {
        long v = below(3) == 0 ? EDGES[below(EDGES.length)] : below(6);
        if (type == long.class) {
            return v;
        }
        return (int) v;
    }

    private static Object[] arguments(Method m) {
        Object[] given = new Object[m.getParameterCount()];
        for (int i = 0; i < given.length; i++) {
            given[i] = argument(m.getParameterTypes()[i]);
        }
        return given;
    }

    private static int call(TwinVoice x, Method m, Object[] given) throws IllegalAccessException {
        try {
            return (int) m.invoke(x, given);
        } catch (InvocationTargetException thrown) {
            Probe.due(m.getName() + Arrays.toString(given) + " threw " + thrown.getCause(), 1, 0);
            return 0;
        }
    }

    private static Method[] face() {
        Method[] all = TwinVoice.class.getDeclaredMethods();
        Method[] face = Arrays.stream(all).filter(m -> Modifier.isPublic(m.getModifiers())).toArray(Method[]::new);
        Arrays.sort(face, Comparator.comparing(Method::getName));
        return face;
    }

    /** Both objects get all acts, the first one alone is asked in between. */
    private static void compare(Method[] face) throws IllegalAccessException {
        TwinVoice asked = new TwinVoice();
        TwinVoice plain = new TwinVoice();
        for (int i = 0; i < 512; i++) {
            if (below(40) == 0) {
                String text = TEXTS[below(TEXTS.length)];
                Probe.tape(asked, text);
                Probe.tape(plain, text);
            }
            Method m = face[below(face.length)];
            Object[] given = arguments(m);
            if (ACTS.contains(m.getName())) {
                Probe.due(m.getName() + Arrays.toString(given), call(asked, m, given), call(plain, m, given));
            } else {
                call(asked, m, given);
            }
        }
        for (Method m : face) {
            for (int i = 0; i < 20; i++) {
                Object[] given = arguments(m);
                Probe.due(m.getName() + Arrays.toString(given), call(asked, m, given), call(plain, m, given));
            }
        }
    }

    public static void main(String[] args) throws IllegalAccessException {
        Method[] face = face();
        Probe.due("calls of the face", face.length, 64);
        for (int i = 0; i < 400 && Probe.clean(); i++) {
            compare(face);
        }
        Probe.close("HardyTest");
    }
}
