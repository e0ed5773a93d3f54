/** Promises 31 to 36: hours split between twins, and spite. */
public final class HalvesTest {
    public static void main(String[] args) {
        splits();
        leastSetOfSeveral();
        twelveHours();
        noneSuch();
        spite();
        Probe.close("HalvesTest");
    }

    /** The first twin's hours are worth 6, 4, 0; the second one's 3, 5, 2. */
    private static void splits() {
        TwinVoice x = Probe.of("valley pairs 2 hours 3 odds 0;want 2 at 0 worth 6;want 2 at 1 worth 4 late;want 2 at 0 worth 5;"
                + "want 3 at 0 worth 3;want 3 at 1 worth 5;want 3 at 2 worth 2;want 0 at 1 worth 90;");
        Probe.due("split(1)", x.split(1), 1);
        Probe.due("gets(2)", x.gets(2), 6);
        Probe.due("gets(3)", x.gets(3), 7);
        Probe.due("fair(1)", x.fair(1), 6);
        Probe.due("calm(1)", x.calm(1), 2);
        Probe.due("nearest(1)", x.nearest(1), 1);
        Probe.due("split(0) of nothing times each other", x.split(0), 0);
        Probe.due("gets(0)", x.gets(0), 0);
        Probe.due("gets(1)", x.gets(1), 0);
        Probe.due("fair(0)", x.fair(0), 0);
        Probe.due("calm(0)", x.calm(0), 4);
        Probe.due("nearest(0)", x.nearest(0), 0);
    }

    private static void leastSetOfSeveral() {
        TwinVoice x = Probe.of("valley pairs 1 hours 3 odds 0;want 0 at 0 worth 5;want 0 at 2 worth 5;want 1 at 0 worth 5;"
                + "want 1 at 2 worth 5;");
        Probe.due("split(0)", x.split(0), 1);
        Probe.due("gets(0)", x.gets(0), 5);
        Probe.due("gets(1)", x.gets(1), 5);
        Probe.due("calm(0)", x.calm(0), 4);
        TwinVoice y = Probe.of("valley pairs 1 hours 1 odds 0;want 1 at 0 worth 8;");
        Probe.due("one alone, split", y.split(0), 0);
        Probe.due("one alone, gets(0)", y.gets(0), 0);
        Probe.due("one alone, gets(1)", y.gets(1), 8);
        Probe.due("one alone, nearest", y.nearest(0), 0);
        Probe.due("one alone, calm", y.calm(0), 1);
        TwinVoice z = Probe.of("valley pairs 1 hours 2 odds 0;want 0 at 0 worth 3;want 1 at 1 worth 5;");
        Probe.due("half of 3 is more than 1, split", z.split(0), 1);
        Probe.due("calm(0)", z.calm(0), 1);
        Probe.due("nearest(0)", z.nearest(0), 0);
    }

    private static void twelveHours() {
        TwinVoice x = Probe.of("valley pairs 1 hours 12 odds 0;want 0 at 11 worth 9;want 1 at 0 worth 8;want 1 at 11 worth 1;");
        Probe.due("split(0)", x.split(0), 1 << 11);
        Probe.due("gets(0)", x.gets(0), 9);
        Probe.due("gets(1)", x.gets(1), 8);
        Probe.due("fair(0)", x.fair(0), 8);
        Probe.due("calm(0)", x.calm(0), 1 << 10);
        Probe.due("nearest(0)", x.nearest(0), 1);
    }

    private static void noneSuch() {
        TwinVoice x = Probe.of("valley pairs 1 hours 2 odds 0;");
        for (int i = -1; i <= 2; i += 3) {
            Probe.due("gets(" + i + ")", x.gets(i), -2);
        }
        for (int i = -1; i <= 1; i += 2) {
            Probe.due("split(" + i + ")", x.split(i), -2);
            Probe.due("fair(" + i + ")", x.fair(i), -2);
            Probe.due("calm(" + i + ")", x.calm(i), -2);
            Probe.due("nearest(" + i + ")", x.nearest(i), -2);
            Probe.due("rests(" + i + ", 0, 0)", x.rests(i, 0, 0), -2);
        }
    }

    private static void spite() {
        TwinVoice x = Probe.of("valley pairs 1 hours 4 odds 0;want 0 at 0 worth 1;want 1 at 0 worth 2;want 1 at 1 worth 3 late;");
        Probe.due("both want it, no cost", x.rests(0, 0, 0), 3);
        Probe.due("both want it, a cost", x.rests(0, 0, 1), 2);
        Probe.due("one wants it, no cost", x.rests(0, 1, 0), 3);
        Probe.due("one wants it, a cost", x.rests(0, 1, 99), 2);
        Probe.due("none wants it, no cost", x.rests(0, 2, 0), 4);
        Probe.due("none wants it, a cost", x.rests(0, 2, 5), 3);
        Probe.due("cost 100", x.rests(0, 0, 100), -2);
        Probe.due("cost -1", x.rests(0, 0, -1), -2);
        Probe.due("hour 4", x.rests(0, 4, 0), -2);
        Probe.due("hour -1", x.rests(0, -1, 0), -2);
    }
}
