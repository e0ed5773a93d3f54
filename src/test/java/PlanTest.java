/** Promises 19 to 30: plans of the greatest worth and what changes them. */
public final class PlanTest {
    public static void main(String[] args) {
        noValleyAndNoWants();
        leastRowAndWays();
        lateMakesRoom();
        lending();
        mostAndChorus();
        loudestFirstOfSeveral();
        sayingChangesNoPlan();
        rateChangesPlans();
        Probe.close("PlanTest");
    }

    private static void noValleyAndNoWants() {
        TwinVoice x = new TwinVoice();
        int[] none = {x.plan(), x.ways(), x.surely(), x.quiet(), x.loudest(), x.spares(), x.most(), x.chorus(0),
            x.planned(0), x.without(0), x.with(0), x.unlent(0)};
        for (int i = 0; i < none.length; i++) {
            Probe.due("no valley, " + i, none[i], -2);
        }
        TwinVoice y = Probe.of("valley pairs 1 hours 3 odds 0;");
        Probe.due("plan()", y.plan(), 0);
        Probe.due("ways()", y.ways(), 1);
        Probe.due("surely()", y.surely(), 0);
        Probe.due("quiet()", y.quiet(), 7);
        Probe.due("loudest()", y.loudest(), 0);
        Probe.due("most()", y.most(), 0);
        Probe.due("chorus(2)", y.chorus(2), 0);
        Probe.due("chorus(3)", y.chorus(3), -2);
        Probe.due("chorus(-1)", y.chorus(-1), -2);
        Probe.due("spares()", y.spares(), -1);
        Probe.due("planned(0)", y.planned(0), -2);
    }

    /** Wants 0 and 1 clash and are worth the same; want 2 stands alone. */
    private static void leastRowAndWays() {
        TwinVoice x = Probe.of("valley pairs 1 hours 3 odds 0;want 0 at 0 worth 5;want 1 at 0 worth 5;want 0 at 1 worth 3;");
        Probe.due("plan()", x.plan(), 8);
        Probe.due("ways()", x.ways(), 2);
        Probe.due("planned(0)", x.planned(0), 0);
        Probe.due("planned(1)", x.planned(1), 1);
        Probe.due("planned(2)", x.planned(2), 1);
        Probe.due("planned(3)", x.planned(3), -2);
        Probe.due("planned(-1)", x.planned(-1), -2);
        Probe.due("surely()", x.surely(), 4);
        Probe.due("quiet()", x.quiet(), 4);
        Probe.due("loudest()", x.loudest(), 0);
        Probe.due("without(2)", x.without(2), 5);
        Probe.due("without(0)", x.without(0), 8);
        Probe.due("without(3)", x.without(3), -2);
        Probe.due("without(-1)", x.without(-1), -2);
        Probe.due("with(0)", x.with(0), 8);
        Probe.due("with(3)", x.with(3), -2);
        Probe.due("with(-1)", x.with(-1), -2);
    }

    /** Want 0 may move to hour 1, where want 2 of the same person is worth less. */
    private static void lateMakesRoom() {
        TwinVoice x = Probe.of("valley pairs 1 hours 3 odds 0;want 0 at 0 worth 9 late;want 1 at 0 worth 7;"
                + "want 0 at 1 worth 4;want 1 at 2 worth 2 late;");
        Probe.due("plan()", x.plan(), 18);
        Probe.due("ways()", x.ways(), 1);
        Probe.due("planned(0)", x.planned(0), 2);
        Probe.due("planned(1)", x.planned(1), 1);
        Probe.due("planned(2)", x.planned(2), 0);
        Probe.due("planned(3)", x.planned(3), 1);
        Probe.due("surely()", x.surely(), Probe.set(0, 1, 3));
        Probe.due("quiet()", x.quiet(), 0);
        Probe.due("loudest()", x.loudest(), 1);
        Probe.due("without(0)", x.without(0), 13);
        Probe.due("without(1)", x.without(1), 15);
        Probe.due("with(2)", x.with(2), 15);
        Probe.due("most()", x.most(), 3);
        TwinVoice y = Probe.of("valley pairs 1 hours 2 odds 0;want 0 at 0 worth 5 late;");
        Probe.due("its hour ahead of the next", y.planned(0), 1);
        Probe.due("two ways", y.ways(), 2);
        Probe.due("said in all", y.surely(), 1);
        Probe.due("quiet in the next", y.quiet(), 2);
    }

    /** Lend 0 makes pair 0 dumb at hour 0; lend 1 parts pair 1's twins at hour 1. */
    private static void lending() {
        TwinVoice x = Probe.of("valley pairs 2 hours 2 odds 0;lend 0 to 2 at 0;lend 0 to 2 at 1;"
                + "want 0 at 0 worth 10;want 2 at 1 worth 6;want 3 at 1 worth 5;");
        Probe.due("plan()", x.plan(), 11);
        Probe.due("with a dumb one", x.with(0), -1);
        Probe.due("without a dumb one", x.without(0), 11);
        Probe.due("unlent(0)", x.unlent(0), 21);
        Probe.due("unlent(1)", x.unlent(1), 6);
        Probe.due("unlent(2)", x.unlent(2), -2);
        Probe.due("unlent(-1)", x.unlent(-1), -2);
        Probe.due("spares()", x.spares(), 0);
        Probe.due("plan() still", x.plan(), 11);
        Probe.due("with(2)", x.with(2), 11);
        TwinVoice y = Probe.of("valley pairs 2 hours 2 odds 0;lend 2 to 0 at 1;lend 0 to 2 at 0;lend 0 to 3 at 1;"
                + "want 0 at 0 worth 10;want 1 at 1 worth 10;");
        Probe.due("unlent(0)", y.unlent(0), 0);
        Probe.due("unlent(1)", y.unlent(1), 10);
        Probe.due("unlent(2)", y.unlent(2), 10);
        Probe.due("first of several", y.spares(), 1);
        TwinVoice z = Probe.of("valley pairs 2 hours 1 odds 0;lend 0 to 2 at 0;want 2 at 0 worth 4;");
        Probe.due("not more than now", z.spares(), -1);
    }

    /** One of worth 50 keeps three of worth 1 from being said. */
    private static void mostAndChorus() {
        TwinVoice x = Probe.of("valley pairs 4 hours 2 odds 0;want 0 at 0 worth 50;want 2 at 0 worth 1 to 0;"
                + "want 4 at 0 worth 1 to 0;want 6 at 0 worth 1 late to 0;want 7 at 1 worth 1;");
        Probe.due("plan()", x.plan(), 51);
        Probe.due("most()", x.most(), 4);
        Probe.due("chorus(0)", x.chorus(0), 3);
        Probe.due("chorus(1)", x.chorus(1), 1);
        TwinVoice y = Probe.of("valley pairs 2 hours 2 odds 0;want 0 at 0 worth 1 late;want 2 at 1 worth 1;want 3 at 1 worth 1;"
                + "lend 0 to 2 at 0;");
        Probe.due("late ones in the chorus", y.chorus(1), 2);
        Probe.due("dumb ones out of it", y.chorus(0), 0);
    }

    private static void loudestFirstOfSeveral() {
        TwinVoice x = Probe.of("valley pairs 2 hours 4 odds 0;want 0 at 1 worth 4;want 0 at 3 worth 2;want 2 at 3 worth 2;");
        Probe.due("loudest()", x.loudest(), 1);
        Probe.due("quiet()", x.quiet(), Probe.set(0, 2));
        TwinVoice y = Probe.of("valley pairs 2 hours 4 odds 0;want 0 at 1 worth 4;want 0 at 3 worth 2;want 2 at 3 worth 3;");
        Probe.due("by sums", y.loudest(), 3);
    }

    private static void sayingChangesNoPlan() {
        TwinVoice x = Probe.of("valley pairs 1 hours 1 odds 0;want 0 at 0 worth 5;want 1 at 0 worth 6;");
        x.say(0, 0);
        Probe.due("plan()", x.plan(), 6);
        Probe.due("planned(0)", x.planned(0), 0);
        Probe.due("with(0)", x.with(0), 5);
        Probe.due("without(1)", x.without(1), 5);
        Probe.due("chorus(0)", x.chorus(0), 1);
    }

    private static void rateChangesPlans() {
        TwinVoice x = Probe.of("valley pairs 1 hours 1 odds 0;want 0 at 0 worth 5;want 1 at 0 worth 6;");
        Probe.due("plan()", x.plan(), 6);
        Probe.due("rate(0, 9)", x.rate(0, 9), 5);
        Probe.due("plan() then", x.plan(), 9);
        Probe.due("planned(0)", x.planned(0), 1);
        Probe.due("planned(1)", x.planned(1), 0);
        Probe.due("with(1)", x.with(1), 6);
        Probe.due("unlike before, surely()", x.surely(), 1);
        Probe.read(x, "valley pairs 1 hours 1 odds 0;want 0 at 0 worth 2;");
        Probe.due("plan() of another valley", x.plan(), 2);
    }
}
