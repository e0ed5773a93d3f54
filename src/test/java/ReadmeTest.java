import java.io.IOException;
import java.lang.reflect.Method;
import java.lang.reflect.Modifier;
import java.nio.file.Files;
import java.nio.file.Path;
import java.util.Set;
import java.util.TreeSet;
import java.util.regex.Matcher;
import java.util.regex.Pattern;

/** README.md's examples answer what it says, and its table names each call of the face, and no other. */
public final class ReadmeTest {
    private static final Pattern CALL = Pattern.compile("^x\\.(\\w+)\\(([^)]*)\\); +// (-?[0-9]+)");
    private static final Pattern TEXT = Pattern.compile("^String text = \"(.*)\";$");

    public static void main(String[] args) throws IOException, ReflectiveOperationException {
        String[] lines = Files.readString(Path.of("README.md")).split("\n");
        examples(lines);
        table(lines);
        Probe.close("ReadmeTest");
    }

    /** All examples are of one object, the calls of the loop that feeds its text aside. */
    private static void examples(String[] lines) throws ReflectiveOperationException {
        TwinVoice x = new TwinVoice();
        int calls = 0;
        int unread = 0;
        for (String line : lines) {
            Matcher text = TEXT.matcher(line);
            Matcher call = CALL.matcher(line);
            if (text.find()) {
                Probe.due("bytes of the text, beside twenty", text.group(1).length() % 20, 0);
                Probe.tape(x, text.group(1));
            } else if (call.find()) {
                Probe.due(line, answer(x, call.group(1), call.group(2)), Long.parseLong(call.group(3)));
                calls++;
            } else if (line.startsWith("x.")) {
                unread++;
            }
        }
        Probe.due("examples that tell no answer", unread, 0);
        Probe.due("examples are there", calls > 0 ? 1 : 0, 1);
    }

    private static int answer(TwinVoice x, String name, String told) throws ReflectiveOperationException {
        String[] numbers = told.isEmpty() ? new String[0] : told.split(", ");
        Method m = method(name);
        Object[] given = new Object[numbers.length];
        for (int i = 0; i < given.length; i++) {
            long v = Long.decode(numbers[i]);
            if (m.getParameterTypes()[i] == long.class) {
                given[i] = v;
            } else {
                given[i] = (int) v;
            }
        }
        return (int) m.invoke(x, given);
    }

    private static Method method(String name) {
        for (Method m : TwinVoice.class.getDeclaredMethods()) {
            if (m.getName().equals(name) && Modifier.isPublic(m.getModifiers())) {
                return m;
            }
        }
        throw new IllegalStateException(name);
    }

    private static void table(String[] lines) {
        Set<String> face = new TreeSet<>();
        for (Method m : TwinVoice.class.getDeclaredMethods()) {
            if (Modifier.isPublic(m.getModifiers())) {
                face.add(m.getName());
            }
        }
        Set<String> told = new TreeSet<>();
        for (String line : lines) {
            Matcher m = Pattern.compile("`([a-z]+)`").matcher(line);
            while (line.matches("\\| .*[0-9] \\|") && m.find()) {
                Probe.due("told twice: " + m.group(1), told.add(m.group(1)) ? 1 : 0, 1);
            }
        }
        Probe.due("the table has " + told + ", the face " + face, told.equals(face) ? 1 : 0, 1);
    }
}
