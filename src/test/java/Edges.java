import java.nio.file.Files;
import java.nio.file.Path;
import java.util.ArrayList;
import java.util.List;
import java.util.function.IntUnaryOperator;
import java.util.function.ToIntFunction;

/**
 * Edge cases by the document's own words: each is told by the sentence that names it. In the end
 * every word of the terms and promises must stand in a sentence that has a test of its own.
 */
final class Edges {
    private static final String DOCUMENT = "../shared/DOC.md";
    private static final List<String[]> TOLD = new ArrayList<>();
    private static String section = "";

    private Edges() {
    }

    /** What is told from now on is of a term ("I" to "VIII") or of a promise ("1" to "65"). */
    static void of(String name) {
        section = name;
    }

    static void of(int promise) {
        of(String.valueOf(promise));
    }

    static void says(String sentence, Runnable test) {
        TOLD.add(new String[] {section, sentence});
        int asked = Probe.asked();
        int wrong = Probe.wrong();
        test.run();
        Probe.due(section + ", asked by \"" + sentence + "\"", Probe.asked() > asked ? 1 : 0, 1);
        if (Probe.wrong() > wrong) {
            System.out.println("    so says " + section + ": " + sentence);
        }
    }

    // ---- What many sentences say alike ----

    /** There are numbers 0 to last: -2 is due for those on both sides of them, and for no other. */
    static void noneBut(String call, int last, IntUnaryOperator ask) {
        for (int i = 0; i <= last; i++) {
            Probe.due(call + " of " + i + " is -2", ask.applyAsInt(i) == -2 ? 1 : 0, 0);
        }
        for (int i : new int[] {-1, last + 1, Integer.MIN_VALUE, Integer.MAX_VALUE}) {
            Probe.due(call + " of " + i, ask.applyAsInt(i), -2);
        }
    }

    /** Without a valley: never told, told by blanks alone, gone back to. */
    static void noValley(String call, ToIntFunction<TwinVoice> ask) {
        TwinVoice never = new TwinVoice();
        Probe.due(call + " of a new object", ask.applyAsInt(never), -2);
        TwinVoice gone = Probe.of("valley pairs 1 hours 2 odds 50;want 0 at 0 worth 1;job from 0 to 0 pays 1;");
        Probe.due("blanks alone", Probe.read(gone, " \n"), 0);
        Probe.due(call + " behind blanks alone", ask.applyAsInt(gone), -2);
        TwinVoice back = new TwinVoice();
        back.image(2);
        Probe.read(back, "valley pairs 1 hours 2 odds 50;want 0 at 0 worth 1;job from 0 to 0 pays 1;");
        back.back(2);
        Probe.due(call + " behind back()", ask.applyAsInt(back), -2);
    }

    /** A call that is refused leaves all that can be asked as it was. */
    static void stays(String call, TwinVoice x, int due, ToIntFunction<TwinVoice> act) {
        String before = state(x);
        Probe.due(call, act.applyAsInt(x), due);
        String after = state(x);
        Probe.due(call + " left " + after + ", there was " + before, before.equals(after) ? 1 : 0, 1);
    }

    private static String state(TwinVoice x) {
        StringBuilder told = new StringBuilder();
        for (int what = 0; what <= 9; what++) {
            told.append(x.count(what)).append(' ');
        }
        for (int want = 0; want < x.count(3); want++) {
            for (int what = 0; what < 6; what++) {
                told.append(x.want(want, what)).append(' ');
            }
        }
        for (int lend = 0; lend < x.count(4); lend++) {
            told.append(x.lend(lend, 0)).append(' ').append(x.lend(lend, 1)).append(' ').append(x.lend(lend, 2)).append(' ');
        }
        for (int job = 0; job < x.count(5); job++) {
            told.append(x.job(job, 0)).append(' ').append(x.job(job, 1)).append(' ').append(x.job(job, 2)).append(' ');
        }
        told.append(x.said()).append(' ').append(x.worth()).append(' ').append(x.left()).append(' ').append(x.plan()).append(' ');
        for (int slot = 0; slot < 4; slot++) {
            told.append(x.lies(slot)).append(' ').append(x.judge(slot)).append(' ');
            told.append(x.callers(slot, 0)).append(' ').append(x.callers(slot, 1)).append(' ');
        }
        return told.toString();
    }

    /** A new object's answer to a text, its fault and the fault's place. */
    static void fault(String text, int code, int place) {
        TwinVoice x = new TwinVoice();
        Probe.due("valley() of " + text, Probe.read(x, text), -4);
        Probe.due("fault(0) of " + text, x.fault(0), code);
        Probe.due("fault(1) of " + text, x.fault(1), place);
    }

    static void fine(String text, int lines) {
        TwinVoice x = new TwinVoice();
        Probe.due("valley() of " + text, Probe.read(x, text), lines);
        Probe.due("fault(0) of " + text, x.fault(0), 0);
        Probe.due("fault(1) of " + text, x.fault(1), -1);
    }

    /** A number at the end of a text: the first and the last of its bounds are fine, those beside them are not. */
    static void bounds(String ahead, int least, int most, String behind, int lines) {
        fine(ahead + least + behind, lines);
        fine(ahead + most + behind, lines);
        fault(ahead + (most + 1) + behind, 2, ahead.length());
        if (least > 0) {
            fault(ahead + (least - 1) + behind, 2, ahead.length());
        } else {
            fault(ahead + "-1" + behind, 1, ahead.length());
        }
    }

    // ---- Whether all is told ----

    /** Each sentence stands in the document where it is told from, and together they leave no word out. */
    static void close() throws java.io.IOException {
        String document = Files.readString(Path.of(DOCUMENT));
        for (String name : sections()) {
            String text = textOf(document, name);
            boolean[] covered = new boolean[text.length()];
            for (String[] told : TOLD) {
                if (told[0].equals(name)) {
                    cover(name, text, told[1], covered);
                }
            }
            Probe.due(name + " has no test of: " + uncovered(text, covered), uncovered(text, covered).length(), 0);
        }
    }

    private static List<String> sections() {
        List<String> names = new ArrayList<>(List.of("I", "II", "III", "IV", "V", "VI", "VII", "VIII"));
        for (int promise = 1; promise <= 65; promise++) {
            names.add(String.valueOf(promise));
        }
        return names;
    }

    /** In one line, without the promise's heading and the call's own line. */
    private static String textOf(String document, String name) {
        boolean promise = Character.isDigit(name.charAt(0));
        String head = promise ? "\n## Promise " + name + ":" : "\n" + name + ". ";
        int from = document.indexOf(head) + head.length();
        String rest = document.substring(from);
        String end = promise ? "\n## " : name.equals("VIII") ? "\n## " : "\n" + sections().get(sections().indexOf(name) + 1) + ". ";
        String text = rest.substring(0, rest.indexOf(end)).replace("```text", " ").replace("```", " ");
        if (promise) {
            text = text.substring(text.indexOf("`: ") + 3);
        }
        return text.replaceAll("\\s+", " ");
    }

    private static void cover(String name, String text, String sentence, boolean[] covered) {
        int from = text.indexOf(sentence);
        Probe.due(name + " says \"" + sentence + "\"", from >= 0 ? 1 : 0, 1);
        for (; from >= 0; from = text.indexOf(sentence, from + 1)) {
            for (int i = from; i < from + sentence.length(); i++) {
                covered[i] = true;
            }
        }
    }

    private static String uncovered(String text, boolean[] covered) {
        StringBuilder left = new StringBuilder();
        for (int i = 0; i < text.length(); i++) {
            if (!covered[i] && Character.isLetterOrDigit(text.charAt(i))) {
                left.append(text.charAt(i));
            } else if (left.length() > 0 && left.charAt(left.length() - 1) != ' ') {
                left.append(' ');
            }
        }
        return left.toString().trim();
    }
}
