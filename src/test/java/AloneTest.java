import java.lang.reflect.Method;
import java.lang.reflect.Modifier;
import java.util.ArrayList;
import java.util.Arrays;
import java.util.List;

/**
 * What a call answers doesn't hang on what was asked before it: each is asked of a new object and
 * of one that answered all the others, there and back.
 */
public final class AloneTest {
    private static final List<String> ASKS = List.of("want", "lend", "job", "voice", "holds", "may", "dumb", "rings", "ring",
            "mute", "can", "clash", "clashes", "plan", "planned", "ways", "surely", "quiet", "loudest", "without", "with",
            "unlent", "spares", "most", "chorus", "split", "gets", "fair", "calm", "nearest", "rests", "hours", "idle", "run",
            "asked", "hire", "hired", "able", "asks", "callers", "culprits", "proof", "alibi", "lies", "said", "worth", "left",
            "judge", "drawn", "luck", "count", "fault");
    private static final String[] TEXTS = {
        "valley pairs 2 hours 4 odds 50;want 0 at 1 worth 5;want 1 at 1 worth 6 late;want 0 at 2 worth 3;want 2 at 1 worth 7 late;"
            + "want 3 at 1 worth 8;want 1 at 3 worth 4;lend 0 to 3 at 1;lend 2 to 1 at 3;job from 0 to 1 pays 5;job from 1 to 3 pays 6;"
            + "job from 1 to 1 pays 6;",
        "valley pairs 3 hours 3 odds 90;want 5 at 0 worth 9 late to 1;want 1 at 1 worth 9 late;want 2 at 1 worth 2 whisper;"
            + "want 3 at 1 worth 2 whisper;want 4 at 0 worth 7;lend 0 to 2 at 0;lend 2 to 0 at 0;lend 4 to 1 at 2;"
            + "job from 0 to 0 pays 9;job from 0 to 2 pays 9;"};

    private static TwinVoice make(String text) {
        TwinVoice x = Probe.of(text);
        Probe.fill(x, 0, 0, 0, 0, 1, 2, 1, 3, 2, 0);
        Probe.fill(x, 1, 1, 0, 0, 1, 0, 2, 1);
        Probe.fill(x, 2, 2, 0, 0, 1, 0, 2, 0, 4, 0);
        x.say(0, 0);
        return x;
    }

    private static Method method(String name) {
        for (Method m : TwinVoice.class.getDeclaredMethods()) {
            if (m.getName().equals(name) && Modifier.isPublic(m.getModifiers())) {
                return m;
            }
        }
        throw new IllegalStateException(name);
    }

    private static int call(TwinVoice x, Method m, int code) throws ReflectiveOperationException {
        Object[] given = new Object[m.getParameterCount()];
        for (int i = 0; i < given.length; i++) {
            given[i] = (code >> (2 * i)) & 3;
        }
        return (int) m.invoke(x, given);
    }

    public static void main(String[] args) throws ReflectiveOperationException {
        for (String text : TEXTS) {
            TwinVoice used = make(text);
            List<Method> all = new ArrayList<>();
            ASKS.forEach(name -> all.add(method(name)));
            for (int round = 0; round < 2; round++) {
                for (Method m : all) {
                    for (int code = 0; code < 1 << 2 * m.getParameterCount(); code++) {
                        String told = m.getName() + " " + Integer.toString(code, 4) + " of " + Arrays.asList(TEXTS).indexOf(text);
                        Probe.due(told, call(used, m, code), call(make(text), m, code));
                    }
                }
                java.util.Collections.reverse(all);
            }
        }
        Probe.close("AloneTest");
    }
}
