/** Promises 41 to 44: jobs shared out. */
public final class JobTest {
    public static void main(String[] args) {
        noneSuch();
        oneSharedVoice();
        twinsWhoDoNotShare();
        theFirstWay();
        lentHours();
        asksTooMuch();
        Probe.close("JobTest");
    }

    private static void noneSuch() {
        TwinVoice x = new TwinVoice();
        Probe.due("hire() without a valley", x.hire(), -2);
        Probe.due("hired(0) without a valley", x.hired(0), -2);
        TwinVoice y = Probe.of("valley pairs 1 hours 2 odds 0;");
        Probe.due("hire() without jobs", y.hire(), 0);
        TwinVoice z = Probe.of("valley pairs 1 hours 2 odds 0;job from 0 to 1 pays 5;");
        for (int i = -1; i <= 1; i += 2) {
            Probe.due("hired(" + i + ")", z.hired(i), -2);
            Probe.due("able(" + i + ")", z.able(i), -2);
            Probe.due("asks(" + i + ")", z.asks(i), -2);
        }
        Probe.due("hire()", z.hire(), 5);
        Probe.due("hired(0)", z.hired(0), 0);
        Probe.due("able(0)", z.able(0), 3);
        Probe.due("asks(0)", z.asks(0), 1);
    }

    /** Both jobs are of hour 1, where the twins have one voice for two. */
    private static void oneSharedVoice() {
        TwinVoice x = Probe.of("valley pairs 1 hours 3 odds 0;job from 0 to 1 pays 5;job from 1 to 2 pays 8;job from 0 to 0 pays 2;");
        Probe.due("hire()", x.hire(), 10);
        Probe.due("hired(0)", x.hired(0), -1);
        Probe.due("hired(1)", x.hired(1), 0);
        Probe.due("hired(2)", x.hired(2), 0);
        Probe.due("asks(0)", x.asks(0), 10);
        Probe.due("asks(1)", x.asks(1), 3);
        Probe.due("asks(2)", x.asks(2), 1);
    }

    /** Person 3 holds pair 0's voice at hour 0, so that 2 and 3 don't share then. */
    private static void twinsWhoDoNotShare() {
        TwinVoice x = Probe.of("valley pairs 2 hours 2 odds 0;lend 0 to 3 at 0;job from 0 to 0 pays 4;job from 0 to 0 pays 6;"
                + "job from 0 to 0 pays 5;");
        Probe.due("hire()", x.hire(), 11);
        Probe.due("hired(0)", x.hired(0), -1);
        Probe.due("hired(1)", x.hired(1), 2);
        Probe.due("hired(2)", x.hired(2), 3);
        Probe.due("able(0)", x.able(0), Probe.set(2, 3));
        Probe.due("asks(0)", x.asks(0), 5);
        TwinVoice y = Probe.of("valley pairs 2 hours 2 odds 0;lend 0 to 3 at 0;job from 0 to 1 pays 4;job from 0 to 1 pays 6;");
        Probe.due("they share in one of its hours", y.hire(), 6);
        Probe.due("the first way", y.hired(1), 2);
        Probe.due("nobody", y.hired(0), -1);
    }

    private static void theFirstWay() {
        TwinVoice x = Probe.of("valley pairs 2 hours 3 odds 0;job from 0 to 1 pays 5;job from 1 to 2 pays 5;job from 2 to 2 pays 5;"
                + "job from 0 to 0 pays 1;");
        Probe.due("hire()", x.hire(), 16);
        Probe.due("hired(0)", x.hired(0), 0);
        Probe.due("hired(1)", x.hired(1), 2);
        Probe.due("hired(2)", x.hired(2), 0);
        Probe.due("hired(3)", x.hired(3), 2);
        TwinVoice y = Probe.of("valley pairs 1 hours 1 odds 0;job from 0 to 0 pays 5;job from 0 to 0 pays 5;");
        Probe.due("a person ahead of nobody", y.hired(0), 0);
        Probe.due("then nobody", y.hired(1), -1);
        Probe.due("as much is enough", y.asks(1), 5);
    }

    private static void lentHours() {
        TwinVoice x = Probe.of("valley pairs 2 hours 3 odds 0;lend 0 to 2 at 1;lend 2 to 1 at 2;job from 1 to 2 pays 7;"
                + "job from 0 to 0 pays 1;");
        Probe.due("nobody is able", x.able(0), 0);
        Probe.due("hire()", x.hire(), 1);
        Probe.due("hired(0)", x.hired(0), -1);
        Probe.due("asks(0)", x.asks(0), -1);
        Probe.due("able(1)", x.able(1), 15);
        Probe.due("asks(1)", x.asks(1), 1);
    }

    /** The first job's hours take those of two others on one pair. */
    private static void asksTooMuch() {
        TwinVoice x = Probe.of("valley pairs 1 hours 2 odds 0;job from 0 to 1 pays 1;job from 0 to 0 pays 500;job from 1 to 1 pays 500;");
        Probe.due("asks 1000", x.asks(0), -1);
        TwinVoice y = Probe.of("valley pairs 1 hours 2 odds 0;job from 0 to 1 pays 1;job from 0 to 0 pays 500;job from 1 to 1 pays 499;");
        Probe.due("asks 999", y.asks(0), 999);
        Probe.due("its own pay counts for nothing", y.asks(1), 1);
    }
}
