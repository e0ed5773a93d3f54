import java.io.IOException;
import java.lang.reflect.Field;
import java.lang.reflect.Member;
import java.lang.reflect.Method;
import java.lang.reflect.Modifier;
import java.nio.file.Files;
import java.nio.file.Path;
import java.util.ArrayList;
import java.util.List;
import java.util.Set;
import java.util.TreeSet;
import java.util.regex.Matcher;
import java.util.regex.Pattern;

/** What can be seen of ../shared/LANGUAGE.md's rules by looking at the source and the class's members. */
public final class LanguageTest {
    private static final Path SOURCE = Path.of("src/main/java/TwinVoice.java");
    private static final Path DOCUMENT = Path.of("../shared/DOC.md");

    public static void main(String[] args) throws IOException {
        String text = Files.readString(SOURCE);
        Probe.due("signs beyond 127", text.chars().filter(c -> c > 126 || c < 32 && c != 10).count(), 0);
        String code = bare(text);
        words(code);
        sizes(code);
        face();
        privateNames();
        Probe.close("LanguageTest");
    }

    /** Without comments, and with empty texts. */
    private static String bare(String text) {
        return text.replaceAll("(?s)/\\*.*?\\*/", "").replaceAll("//[^\n]*", "")
                .replaceAll("\"(\\\\.|[^\"\\\\])*\"", "\"\"");
    }

    private static void words(String code) {
        String[] forbidden = {"\\bthrow\\b", "\\bthrows\\b", "\\btry\\b", "\\bcatch\\b", "\\bfinally\\b", "\\bsynchronized\\b",
            "\\bassert\\b", "\\bimport\\b", "\\bpackage\\b", "->", "::", "static\\s*\\{", "\"\"\\s*\\+", "\\+\\s*\"\"",
            "\\bprotected\\b", "\\bSystem\\.(?!arraycopy)", "\\bhashCode\\b", "\\btoString\\b", "\\bObject\\b", "Exact\\b",
            "\\bdouble\\b", "\\bfloat\\b", "\\bnative\\b", "\\bvolatile\\b", "\\binstanceof\\b"};
        for (String f : forbidden) {
            Matcher m = Pattern.compile(f).matcher(code);
            Probe.due("source has " + f, m.find() ? 1 : 0, 0);
        }
    }

    private static void sizes(String code) {
        String[] lines = code.split("\n");
        int classes = 0;
        int start = -1;
        for (int i = 0; i < lines.length; i++) {
            classes += lines[i].matches(".*\\bclass\\b.*") ? 1 : 0;
            if (lines[i].matches(" {4}( {4})?(?!for|if|while|switch|else)[a-zA-Z].*\\) \\{")) {
                start = i;
                int commas = lines[i].replaceAll("[^,]", "").length();
                Probe.due("more than seven parameters: " + lines[i], commas > 6 ? 1 : 0, 0);
            } else if (start >= 0 && lines[i].matches(" {4}( {4})?\\}")) {
                Probe.due("more than sixty lines: " + lines[start], i - start > 60 ? 1 : 0, 0);
            }
        }
        Probe.due("more than twelve classes: " + classes, classes > 12 ? 1 : 0, 0);
        for (Class<?> c : all()) {
            int fields = 0;
            for (Field f : c.getDeclaredFields()) {
                fields += Modifier.isStatic(f.getModifiers()) ? 0 : 1;
                boolean mutable = Modifier.isStatic(f.getModifiers()) && !Modifier.isFinal(f.getModifiers());
                Probe.due("static, not final: " + f, mutable ? 1 : 0, 0);
            }
            Probe.due("more than twenty fields in " + c.getName(), fields > 20 ? 1 : 0, 0);
        }
    }

    private static List<Class<?>> all() {
        List<Class<?>> classes = new ArrayList<>();
        classes.add(TwinVoice.class);
        for (Class<?> c : TwinVoice.class.getDeclaredClasses()) {
            Probe.due("inner, not static: " + c.getName(), Modifier.isStatic(c.getModifiers()) ? 1 : 0, 1);
            classes.add(c);
        }
        return classes;
    }

    private static Set<String> documentsFace() throws IOException {
        Set<String> face = new TreeSet<>();
        Matcher m = Pattern.compile("public int (\\w+)\\(([^)]*)\\);").matcher(Files.readString(DOCUMENT));
        while (m.find()) {
            face.add(m.group(1) + "(" + m.group(2).replaceAll(" \\w+(,|$)", "$1").replace(" ", "") + ")");
        }
        return face;
    }

    private static void face() throws IOException {
        Set<String> got = new TreeSet<>();
        for (Method m : TwinVoice.class.getDeclaredMethods()) {
            if (Modifier.isPublic(m.getModifiers())) {
                StringBuilder types = new StringBuilder();
                for (Class<?> t : m.getParameterTypes()) {
                    types.append(types.length() == 0 ? "" : ",").append(t.getName());
                }
                got.add(m.getName() + "(" + types + ")");
                Probe.due("static or no int: " + m, m.getReturnType() == int.class && !Modifier.isStatic(m.getModifiers()) ? 1 : 0, 1);
            } else {
                hidden(m);
            }
        }
        Set<String> due = documentsFace();
        Probe.due("calls of the document", due.size(), 64);
        Probe.due("the face is " + got + ", due is " + due, got.equals(due) ? 1 : 0, 1);
        for (Field f : TwinVoice.class.getDeclaredFields()) {
            if (!f.getName().equals("NONE")) {
                hidden(f);
            }
        }
        Probe.due("public constructors", TwinVoice.class.getConstructors().length, 1);
        Probe.due("constructors", TwinVoice.class.getDeclaredConstructors().length, 1);
        Probe.due("a final class", Modifier.isFinal(TwinVoice.class.getModifiers()) ? 1 : 0, 1);
    }

    private static void hidden(Member m) {
        Probe.due("not private: " + m, Modifier.isPrivate(m.getModifiers()) ? 1 : 0, 1);
    }

    private static void privateNames() throws IOException {
        Set<String> names = new TreeSet<>();
        for (String call : documentsFace()) {
            names.add(call.substring(0, call.indexOf('(')));
        }
        for (Class<?> c : all()) {
            for (Method m : c.getDeclaredMethods()) {
                boolean outer = c == TwinVoice.class && Modifier.isPublic(m.getModifiers());
                Probe.due("has a public one's name: " + m, !outer && names.contains(m.getName()) ? 1 : 0, 0);
            }
        }
    }
}
