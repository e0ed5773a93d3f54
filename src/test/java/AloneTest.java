import java.lang.reflect.Method;
import java.lang.reflect.Modifier;
import java.util.ArrayList;
import java.util.Arrays;
import java.util.List;

/**
 * What a call answers doesn't hang on what was asked before it: each is asked of a new object and
 * of one that answered all the others, there and back. Nor does it hang on a valley that was there
 * before, or on one that was there since an image was kept.
 */
public final class AloneTest {
    private static final List<String> ASKS = List.of("want", "lend", "job", "voice", "holds", "may", "dumb", "rings", "ring",
            "mute", "can", "clash", "clashes", "plan", "planned", "ways", "surely", "quiet", "loudest", "without", "with",
            "unlent", "spares", "most", "chorus", "split", "gets", "fair", "calm", "nearest", "rests", "hours", "idle", "run",
            "asked", "hire", "hired", "able", "asks", "callers", "culprits", "proof", "alibi", "lies", "said", "worth", "left",
            "judge", "drawn", "luck", "count", "fault");
    private static final String[] TEXTS = {
        "valley pairs 2 hours 4 odds 50;want 0 at 1 worth 5;want 1 at 1 worth 6 late;want 0 at 2 worth 3;want 2 at 1 worth 7 late;"
            + "want 3 at 1 worth 8;want 1 at 3 worth 4;lend 0 to 3 at 1;lend 2 to 1 at 3;job from 0 to 1 pays 5;job from 1 to 3 pays 6;"
            + "job from 1 to 1 pays 6;",
        "valley pairs 3 hours 3 odds 90;want 5 at 0 worth 9 late to 1;want 1 at 1 worth 9 late;want 2 at 1 worth 2 whisper;"
            + "want 3 at 1 worth 2 whisper;want 4 at 0 worth 7;lend 0 to 2 at 0;lend 2 to 0 at 0;lend 4 to 1 at 2;"
            + "job from 0 to 0 pays 9;job from 0 to 2 pays 9;",
        "valley pairs 4 hours 4 odds 100;", "valley pairs 1 hours 1 odds 0;"};

    /** Has the most of all, so that anything left of it would be seen. */
    private static final String FULL = "valley pairs 4 hours 12 odds 100;" + "want 0 at 0 worth 99 late to 2;".repeat(3)
            + "want 2 at 1 worth 98 late to 3;".repeat(3) + "want 5 at 2 worth 97 late to 1;".repeat(3)
            + "lend 0 to 2 at 0;lend 2 to 4 at 0;lend 4 to 0 at 0;lend 1 to 4 at 1;lend 3 to 1 at 2;lend 0 to 5 at 3;"
            + "job from 0 to 3 pays 999;".repeat(4);

    private static TwinVoice make(String text) {
        return fill(Probe.of(text));
    }

    private static TwinVoice fill(TwinVoice x) {
        Probe.fill(x, 0, 0, 0, 0, 1, 2, 1, 3, 2, 0);
        Probe.fill(x, 1, 1, 0, 0, 1, 0, 2, 1);
        Probe.fill(x, 2, 2, 0, 0, 1, 0, 2, 0, 4, 0);
        x.say(0, 0);
        return x;
    }

    /** A valley in place of a fuller one. */
    private static TwinVoice replaced(String text) {
        TwinVoice x = make(FULL);
        askAround(x);
        Probe.read(x, text);
        return fill(x);
    }

    /** A valley that another stood in place of. */
    private static TwinVoice goneBack(String text) {
        TwinVoice x = make(text);
        askAround(x);
        x.image(1);
        Probe.read(x, FULL);
        fill(x);
        x.undo();
        x.say(8, 0);
        askAround(x);
        x.back(1);
        return fill(x);
    }

    private static void askAround(TwinVoice x) {
        x.plan();
        x.hire();
        x.split(0);
        x.drawn(3, 2);
        x.proof(0, 7);
        x.lies(2);
    }

    private static Method method(String name) {
        for (Method m : TwinVoice.class.getDeclaredMethods()) {
            if (m.getName().equals(name) && Modifier.isPublic(m.getModifiers())) {
                return m;
            }
        }
        throw new IllegalStateException(name);
    }

    private static int call(TwinVoice x, Method m, int code) throws ReflectiveOperationException {
        Object[] given = new Object[m.getParameterCount()];
        for (int i = 0; i < given.length; i++) {
            given[i] = (code >> (2 * i)) & 3;
        }
        return (int) m.invoke(x, given);
    }

    private static void compare(String how, List<Method> all, TwinVoice x, String text) throws ReflectiveOperationException {
        for (Method m : all) {
            for (int code = 0; code < 1 << 2 * m.getParameterCount(); code++) {
                String told = m.getName() + " " + Integer.toString(code, 4) + " of " + how + " " + Arrays.asList(TEXTS).indexOf(text);
                Probe.due(told, call(x, m, code), call(make(text), m, code));
            }
        }
    }

    public static void main(String[] args) throws ReflectiveOperationException {
        for (String text : TEXTS) {
            List<Method> all = new ArrayList<>();
            ASKS.forEach(name -> all.add(method(name)));
            compare("replaced", all, replaced(text), text);
            compare("gone back", all, goneBack(text), text);
            TwinVoice used = make(text);
            for (int round = 0; round < 2; round++) {
                compare("used", all, used, text);
                java.util.Collections.reverse(all);
            }
        }
        Probe.close("AloneTest");
    }
}
