/** Promises 50 to 59: wants said one by one, judged, drawn and rated. */
public final class DayTest {
    /** Wants 0 and 1 clash at hour 0; want 2 may be late out of want 3's hour; want 4 is dumb. */
    private static final String TEXT = "valley pairs 2 hours 3 odds 60;lend 2 to 0 at 2;want 0 at 0 worth 10;"
            + "want 1 at 0 worth 20 late;want 0 at 1 worth 30 late;want 1 at 1 worth 7;want 3 at 2 worth 9 late;";

    public static void main(String[] args) {
        saying();
        sayingNoneSuch();
        leftToSay();
        undoing();
        judging();
        judgingNoneSuch();
        drawing();
        drawingNoneSuch();
        rating();
        Probe.close("DayTest");
    }

    private static void saying() {
        TwinVoice x = Probe.of(TEXT);
        Probe.due("said() at first", x.said(), 0);
        Probe.due("worth() at first", x.worth(), 0);
        Probe.due("say(0, 0)", x.say(0, 0), 10);
        Probe.due("said already", x.say(0, 0), -5);
        Probe.due("clashes with one said", x.say(1, 0), -5);
        Probe.due("late", x.say(1, 1), 30);
        Probe.due("said already, late", x.say(1, 0), -5);
        Probe.due("clashes with a late one", x.say(3, 0), -5);
        Probe.due("late likewise", x.say(2, 1), 60);
        Probe.due("dumb", x.say(4, 0), -5);
        Probe.due("late behind the last hour", x.say(4, 1), -5);
        Probe.due("said()", x.said(), 7);
        Probe.due("worth()", x.worth(), 60);
        Probe.due("count(6)", x.count(6), 3);
    }

    private static void sayingNoneSuch() {
        TwinVoice x = Probe.of(TEXT);
        Probe.due("say(5, 0)", x.say(5, 0), -2);
        Probe.due("say(-1, 0)", x.say(-1, 0), -2);
        Probe.due("say(0, 2)", x.say(0, 2), -2);
        Probe.due("say(0, -1)", x.say(0, -1), -2);
        Probe.due("late that may not be", x.say(0, 1), -2);
        x.say(0, 0);
        Probe.due("-2 ahead of -5", x.say(0, 1), -2);
        Probe.due("nothing more was said", x.count(6), 1);
        TwinVoice y = new TwinVoice();
        int[] none = {y.say(0, 0), y.said(), y.worth(), y.left(), y.undo(), y.anew(), y.rate(0, 5)};
        for (int i = 0; i < none.length; i++) {
            Probe.due("no valley, " + i, none[i], -2);
        }
    }

    private static void leftToSay() {
        TwinVoice x = Probe.of(TEXT);
        Probe.due("left() at first", x.left(), x.plan());
        Probe.due("plan()", x.plan(), 60);
        x.say(3, 0);
        Probe.due("left() behind 3", x.left(), 50);
        x.say(1, 0);
        Probe.due("left() behind 1", x.left(), 30);
        x.say(2, 1);
        Probe.due("left() behind all", x.left(), 0);
    }

    private static void undoing() {
        TwinVoice x = Probe.of(TEXT);
        Probe.due("undo() of nothing", x.undo(), -5);
        Probe.due("anew() of nothing", x.anew(), 0);
        x.say(0, 0);
        x.say(2, 0);
        Probe.due("undo()", x.undo(), 1);
        Probe.due("the latest", x.said(), 1);
        Probe.due("said again", x.say(2, 0), 40);
        Probe.due("one more", x.say(4, 0), -5);
        Probe.due("anew()", x.anew(), 2);
        Probe.due("none are", x.said(), 0);
        Probe.due("nor worth", x.worth(), 0);
        Probe.due("undo() then", x.undo(), -5);
        Probe.due("what clashed", x.say(1, 0), 20);
        Probe.due("undo() to none", x.undo(), 0);
    }

    private static int judge(TwinVoice x, long... row) {
        Probe.fill(x, 1, 1, row);
        return x.judge(1);
    }

    private static void judging() {
        TwinVoice x = Probe.of(TEXT);
        x.say(0, 0);
        Probe.due("from the start of the day on", judge(x, 1, 0), 1);
        Probe.due("all can be", judge(x, 0, 0, 1, 1, 2, 1), 3);
        Probe.due("a clash", judge(x, 0, 0, 1, 0, 2, 0), 1);
        Probe.due("said twice", judge(x, 0, 0, 0, 0), 1);
        Probe.due("said twice, late", judge(x, 1, 0, 1, 1), 1);
        Probe.due("dumb", judge(x, 3, 0, 0, 0, 4, 0, 1, 0), 2);
        Probe.due("no such hour", judge(x, 4, 1), 0);
        Probe.due("an empty row", judge(x), 0);
        Probe.due("nothing said by it", x.said(), 1);
    }

    private static void judgingNoneSuch() {
        TwinVoice x = Probe.of(TEXT);
        Probe.due("nothing", x.judge(0), -6);
        Probe.due("no slot", x.judge(4), -2);
        Probe.due("no slot below", x.judge(-1), -2);
        Probe.due("not two each", judge(x, 0, 0, 1), -2);
        Probe.due("want 5", judge(x, 0, 0, 5, 0), -2);
        Probe.due("want 5 behind the first that can't be", judge(x, 0, 0, 0, 0, 5, 0), -2);
        Probe.due("want -1", judge(x, -1, 0), -2);
        Probe.due("late 2", judge(x, 1, 2), -2);
        Probe.due("late -1", judge(x, 1, -1), -2);
        Probe.due("late, though it may not be", judge(x, 0, 1), -2);
        x.valley();
        Probe.due("no valley", judge(x, 0, 0), -2);
        Probe.due("no valley, nothing", x.judge(0), -2);
    }

    /**
     * From seed 1 x is 1103527590, 377401575, 662824084: draws 38, 58, 13. From seed 0 it is 12345
     * at first: a draw of 0.
     */
    private static void drawing() {
        String wants = "want 0 at 0 worth 3;want 1 at 0 worth 4;want 0 at 1 worth 5;";
        TwinVoice x = Probe.of("valley pairs 1 hours 2 odds 59;" + wants);
        Probe.due("said", x.drawn(1, 0), Probe.set(0, 2));
        Probe.due("worth", x.drawn(1, 1), 8);
        Probe.due("tried and not said", x.drawn(1, 2), Probe.set(1));
        TwinVoice y = Probe.of("valley pairs 1 hours 2 odds 58;" + wants);
        Probe.due("odds 58, said", y.drawn(1, 0), Probe.set(0, 2));
        Probe.due("odds 58, not tried", y.drawn(1, 2), 0);
        Probe.due("seed 0, behind a day that tried want 1", x.drawn(0, 2), 0);
        TwinVoice z = Probe.of("valley pairs 1 hours 2 odds 38;" + wants);
        Probe.due("odds 38", z.drawn(1, 0), Probe.set(2));
        z.say(1, 0);
        Probe.due("acts aside", z.drawn(1, 0), Probe.set(2));
        TwinVoice never = Probe.of("valley pairs 1 hours 2 odds 0;" + wants);
        Probe.due("odds 0", never.drawn(0, 0), 0);
        TwinVoice always = Probe.of("valley pairs 1 hours 2 odds 100;" + wants);
        Probe.due("odds 100, said", always.drawn(2000000000, 0), Probe.set(0, 2));
        Probe.due("odds 100, not said", always.drawn(2000000000, 2), Probe.set(1));
        Probe.due("luck of 0", always.luck(2000000000, 20, 0), 20);
        Probe.due("luck of 1", always.luck(0, 20, 1), 0);
        int lucky = 0;
        for (int i = 0; i < 20; i++) {
            lucky += x.drawn(100 + i, 0) >> 2 & 1;
        }
        Probe.due("luck of 2", x.luck(100, 20, 2), lucky);
        Probe.due("luck of one day", x.luck(1, 1, 0), 1);
        Probe.due("luck of one day, not said", x.luck(1, 1, 1), 0);
    }

    private static void drawingNoneSuch() {
        TwinVoice x = Probe.of(TEXT);
        Probe.due("seed -1", x.drawn(-1, 0), -2);
        Probe.due("seed 2000000001", x.drawn(2000000001, 0), -2);
        Probe.due("what -1", x.drawn(0, -1), -2);
        Probe.due("what 3", x.drawn(0, 3), -2);
        Probe.due("luck, seed -1", x.luck(-1, 1, 0), -2);
        Probe.due("luck, seed 2000000001", x.luck(2000000001, 1, 0), -2);
        Probe.due("luck, n 0", x.luck(0, 0, 0), -2);
        Probe.due("luck, n 21", x.luck(0, 21, 0), -2);
        Probe.due("luck, want 5", x.luck(0, 1, 5), -2);
        Probe.due("luck, want -1", x.luck(0, 1, -1), -2);
        x.valley();
        Probe.due("drawn, no valley", x.drawn(0, 0), -2);
        Probe.due("luck, no valley", x.luck(0, 1, 0), -2);
    }

    private static void rating() {
        TwinVoice x = Probe.of(TEXT);
        Probe.due("rate(0, 99)", x.rate(0, 99), 10);
        Probe.due("rate(0, 1)", x.rate(0, 1), 99);
        Probe.due("want(0, 2)", x.want(0, 2), 1);
        Probe.due("rate(0, 0)", x.rate(0, 0), -2);
        Probe.due("rate(0, 100)", x.rate(0, 100), -2);
        Probe.due("rate(5, 1)", x.rate(5, 1), -2);
        Probe.due("rate(-1, 1)", x.rate(-1, 1), -2);
        Probe.due("say(0, 0)", x.say(0, 0), 1);
        Probe.due("something is said", x.rate(1, 5), -5);
        Probe.due("-2 ahead of -5", x.rate(1, 100), -2);
        Probe.due("its worth stays", x.want(1, 2), 20);
        x.undo();
        Probe.due("nothing is said", x.rate(1, 5), 20);
        Probe.due("gets by it", x.gets(1), 5);
    }
}
