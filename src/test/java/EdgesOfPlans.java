/** Edges of promises 19 to 30: plans and what changes them. */
final class EdgesOfPlans {
    private static final String TWO = "valley pairs 2 hours 3 odds 50;";
    /** WANTS 0 and 1 CLASH, WANT 2 doesn't, WANT 3 can't be said. */
    private static final String FEW = TWO + "want 0 at 0 worth 5;want 1 at 0 worth 5;want 0 at 1 worth 3;want 2 at 2 worth 9;lend 2 to 0 at 2;";

    private EdgesOfPlans() {
    }

    static void all() {
        plan();
        planned();
        ways();
        surely();
        quietAndLoudest();
        withoutAndWith();
        unlentAndSpares();
        mostAndChorus();
    }

    /** Nine WANTS of one PERSON in one HOUR, or nine apart. */
    private static String nine(boolean apart, String behind) {
        StringBuilder text = new StringBuilder("valley pairs 1 hours 12 odds 50;");
        for (int i = 0; i < 9; i++) {
            text.append("want 0 at ").append(apart ? i : 0).append(" worth 7").append(behind).append(';');
        }
        return text.toString();
    }

    private static void plan() {
        Edges.of(19);
        Edges.says("PLAN (III): the greatest worth.", () -> {
            Probe.due("no WANTS", Probe.of(TWO).plan(), 0);
            Probe.due("one of two that CLASH", Probe.of(FEW).plan(), 8);
            Probe.due("nine apart", Probe.of(nine(true, "")).plan(), 63);
            Probe.due("one of nine", Probe.of(nine(false, "")).plan(), 7);
            Probe.due("two of nine, one late", Probe.of(nine(false, " late")).plan(), 14);
            Probe.due("nine whispers of one PERSON", Probe.of(nine(false, " whisper")).plan(), 7);
            TwinVoice x = Probe.of(FEW);
            x.say(1, 0);
            Probe.due("acts aside", x.plan(), 8);
        });
        Edges.says("-2: there is no VALLEY.", () -> Edges.noValley("plan", y -> y.plan()));
    }

    private static void planned() {
        Edges.of(20);
        Edges.says("What a WANT is (0, 1, 2) in the first such (the least row).", () -> {
            TwinVoice x = Probe.of(FEW);
            int[] due = {0, 1, 1, 0};
            for (int want = 0; want < 4; want++) {
                Probe.due("planned(" + want + ")", x.planned(want), due[want]);
            }
            Probe.due("1 ahead of 2", Probe.of(TWO + "want 0 at 0 worth 5 late;").planned(0), 1);
            Probe.due("2 where it must be", Probe.of(TWO + "want 0 at 0 worth 5 late;want 1 at 0 worth 5;").planned(0), 2);
            TwinVoice nine = Probe.of(nine(false, ""));
            for (int want = 0; want < 9; want++) {
                Probe.due("the last of nine alone, " + want, nine.planned(want), want == 8 ? 1 : 0);
            }
            TwinVoice late = Probe.of(nine(false, " late"));
            for (int want = 0; want < 9; want++) {
                Probe.due("the last two of nine, " + want, late.planned(want), want < 7 ? 0 : want - 6);
            }
        });
        Edges.says("-2: there is none such.", () -> {
            TwinVoice x = Probe.of(FEW);
            Edges.noneBut("WANT", 3, x::planned);
            Edges.noValley("planned", y -> y.planned(0));
        });
    }

    private static void ways() {
        Edges.of(21);
        Edges.says("How many PLANS have that worth.", () -> {
            Probe.due("no WANTS, the empty one", Probe.of(TWO).ways(), 1);
            Probe.due("one of two", Probe.of(FEW).ways(), 2);
            Probe.due("one alone", Probe.of(nine(true, "")).ways(), 1);
            Probe.due("one of nine", Probe.of(nine(false, "")).ways(), 9);
            Probe.due("its HOUR or the next", Probe.of(TWO + "want 0 at 0 worth 5 late;").ways(), 2);
            Probe.due("a late one in the last HOUR", Probe.of(TWO + "want 0 at 2 worth 5 late;").ways(), 1);
            Probe.due("two of nine, one late", Probe.of(nine(false, " late")).ways(), 72);
            StringBuilder text = new StringBuilder("valley pairs 4 hours 12 odds 0;");
            for (int i = 0; i < 9; i++) {
                text.append("want ").append(2 * (i % 4)).append(" at ").append(4 * (i / 4)).append(" worth 1 late;");
            }
            Probe.due("nine, two each", Probe.of(text.toString()).ways(), 512);
            Probe.due("none can be said", Probe.of(TWO + "want 2 at 2 worth 9;lend 2 to 0 at 2;").ways(), 1);
        });
        Edges.says("-2: there is no VALLEY.", () -> Edges.noValley("ways", y -> y.ways()));
    }

    private static void surely() {
        Edges.of(22);
        Edges.says("WANTS that are said in all of these, as bits.", () -> {
            Probe.due("no WANTS", Probe.of(TWO).surely(), 0);
            Probe.due("not one of two", Probe.of(FEW).surely(), Probe.set(2));
            Probe.due("all nine", Probe.of(nine(true, "")).surely(), 511);
            Probe.due("none of nine", Probe.of(nine(false, "")).surely(), 0);
            Probe.due("in its HOUR or the next", Probe.of(TWO + "want 0 at 0 worth 5 late;").surely(), 1);
        });
        Edges.says("-2 likewise.", () -> Edges.noValley("surely", y -> y.surely()));
    }

    private static void quietAndLoudest() {
        Edges.of(23);
        Edges.says("HOURS in which nothing is said by that first PLAN (as planned()), as bits.", () -> {
            Probe.due("all, nothing is said", Probe.of(TWO).quiet(), 7);
            Probe.due("the last", Probe.of(FEW).quiet(), Probe.set(2));
            Probe.due("the first PLAN says it in its HOUR", Probe.of(TWO + "want 0 at 0 worth 5 late;").quiet(), Probe.set(1, 2));
            Probe.due("late ones in the next", Probe.of(nine(false, " late")).quiet(), 4095 & ~3);
            Probe.due("no HOUR", Probe.of("valley pairs 1 hours 1 odds 0;want 0 at 0 worth 1;").quiet(), 0);
            Probe.due("not said behind one that may be late", Probe.of(TWO + "want 0 at 0 worth 5 late;want 2 at 0 worth 3;lend 2 to 0 at 0;").quiet(),
                    Probe.set(1, 2));
        });
        Edges.says("-2: there is no VALLEY.", () -> Edges.noValley("quiet", y -> y.quiet()));
        Edges.of(24);
        Edges.says("The HOUR in which most worth is said by it, the first of several.", () -> {
            Probe.due("nothing is said", Probe.of(TWO).loudest(), 0);
            Probe.due("first of several", Probe.of(TWO + "want 0 at 1 worth 5;want 0 at 2 worth 5;").loudest(), 1);
            Probe.due("worth together", Probe.of(TWO + "want 0 at 1 worth 5;want 0 at 2 worth 3;want 2 at 2 worth 3;").loudest(), 2);
            Probe.due("not what isn't said", Probe.of(TWO + "want 0 at 0 worth 5;want 0 at 1 worth 4;want 1 at 1 worth 4;").loudest(), 0);
            Probe.due("the last of twelve", Probe.of("valley pairs 1 hours 12 odds 0;want 0 at 11 worth 1;").loudest(), 11);
            Probe.due("late in the next", Probe.of(TWO + "want 0 at 0 worth 9 late;want 0 at 0 worth 8;").loudest(), 1);
        });
        Edges.says("-2 likewise.", () -> Edges.noValley("loudest", y -> y.loudest()));
    }

    private static void withoutAndWith() {
        Edges.of(25);
        Edges.says("The greatest worth, if a WANT were not there.", () -> {
            TwinVoice x = Probe.of(FEW);
            int[] due = {8, 8, 5, 8};
            for (int want = 0; want < 4; want++) {
                Probe.due("without(" + want + ")", x.without(want), due[want]);
            }
            Probe.due("the only one", Probe.of(TWO + "want 0 at 0 worth 9 late;").without(0), 0);
            Probe.due("one that keeps two", Probe.of("valley pairs 4 hours 1 odds 0;want 0 at 0 worth 9;want 2 at 0 worth 4 to 0;"
                    + "want 4 at 0 worth 4 to 0;").without(0), 8);
        });
        Edges.says("-2: there is none such.", () -> {
            TwinVoice x = Probe.of(FEW);
            Edges.noneBut("WANT", 3, x::without);
            Edges.noValley("without", y -> y.without(0));
        });
        Edges.of(26);
        Edges.says("The greatest worth, if a WANT must be said.", () -> {
            TwinVoice x = Probe.of(FEW);
            for (int want = 0; want < 3; want++) {
                Probe.due("with(" + want + ")", x.with(want), 8);
            }
            Probe.due("at a loss", Probe.of("valley pairs 4 hours 1 odds 0;want 0 at 0 worth 1;want 2 at 0 worth 4 to 0;"
                    + "want 4 at 0 worth 4 to 0;").with(0), 1);
            Probe.due("in the next HOUR", Probe.of(TWO + "want 0 at 0 worth 1 late;want 1 at 0 worth 5;").with(0), 6);
            Probe.due("in the next alone", Probe.of(TWO + "want 2 at 1 worth 1 late;lend 2 to 0 at 1;").with(0), 1);
        });
        Edges.says("NONE: it can't be;", () -> {
            Probe.due("dumb", Probe.of(FEW).with(3), -1);
            Probe.due("dumb, late in the last HOUR", Probe.of(TWO + "want 2 at 2 worth 9 late;lend 2 to 0 at 2;").with(0), -1);
            Probe.due("dumb in both", Probe.of(TWO + "want 2 at 1 worth 9 late;lend 2 to 0 at 2;lend 2 to 0 at 1;").with(0), -1);
        });
        Edges.says("-2 likewise.", () -> {
            TwinVoice x = Probe.of(FEW);
            Edges.noneBut("WANT", 3, x::with);
            Edges.noValley("with", y -> y.with(0));
        });
    }

    private static void unlentAndSpares() {
        String three = "valley pairs 4 hours 3 odds 0;lend 4 to 6 at 0;lend 0 to 6 at 1;lend 2 to 6 at 1;want 0 at 1 worth 5;want 2 at 1 worth 5;";
        Edges.of(27);
        Edges.says("The greatest worth, if a LEND were not there.", () -> {
            TwinVoice x = Probe.of(three);
            Probe.due("nothing changes", x.unlent(0), 0);
            Probe.due("he can say it", x.unlent(1), 5);
            Probe.due("another can", x.unlent(2), 5);
            TwinVoice less = Probe.of("valley pairs 2 hours 1 odds 0;lend 0 to 2 at 0;want 2 at 0 worth 5;want 3 at 0 worth 4;");
            Probe.due("now twins don't SHARE", less.plan(), 9);
            Probe.due("then they do", less.unlent(0), 5);
            Probe.due("the LEND is there still", less.plan(), 9);
            Probe.due("the VOICE too", less.voice(0, 0), 2);
        });
        Edges.says("-2: there is none such.", () -> {
            TwinVoice x = Probe.of(three);
            Edges.noneBut("LEND", 2, x::unlent);
            Edges.noValley("unlent", y -> y.unlent(0));
        });
        Edges.of(28);
        Edges.says("The LEND without which that is most, if more than now, the first of several.", () -> {
            Probe.due("first of several", Probe.of(three).spares(), 1);
            Probe.due("most", Probe.of(three + "want 2 at 1 worth 6;").spares(), 2);
            Probe.due("LEND 0", Probe.of("valley pairs 2 hours 1 odds 0;lend 0 to 2 at 0;want 0 at 0 worth 1;").spares(), 0);
        });
        Edges.says("NONE: none;", () -> {
            Probe.due("no LENDS", Probe.of(TWO).spares(), -1);
            Probe.due("as much as now", Probe.of("valley pairs 2 hours 1 odds 0;lend 0 to 2 at 0;want 2 at 0 worth 1;").spares(), -1);
            Probe.due("less than now", Probe.of("valley pairs 2 hours 1 odds 0;lend 0 to 2 at 0;want 2 at 0 worth 5;want 3 at 0 worth 4;")
                    .spares(), -1);
            Probe.due("as he speaks by one lent", Probe.of("valley pairs 2 hours 1 odds 0;lend 0 to 2 at 0;lend 2 to 0 at 0;want 0 at 0 worth 5;")
                    .spares(), -1);
        });
        Edges.says("-2: there is no VALLEY.", () -> Edges.noValley("spares", y -> y.spares()));
    }

    private static void mostAndChorus() {
        Edges.of(29);
        Edges.says("The most WANTS that are said in any PLAN, whatever they are worth.", () -> {
            Probe.due("no WANTS", Probe.of(TWO).most(), 0);
            Probe.due("two of four", Probe.of(FEW).most(), 2);
            Probe.due("all nine", Probe.of(nine(true, "")).most(), 9);
            Probe.due("one of nine", Probe.of(nine(false, "")).most(), 1);
            Probe.due("two of nine, one late", Probe.of(nine(false, " late")).most(), 2);
            TwinVoice x = Probe.of("valley pairs 4 hours 1 odds 0;want 0 at 0 worth 99;want 2 at 0 worth 1 to 0;want 4 at 0 worth 1 to 0;");
            Probe.due("whatever they are worth", x.most(), 2);
            Probe.due("the plan says one", x.plan(), 99);
        });
        Edges.says("-2 likewise.", () -> Edges.noValley("most", y -> y.most()));
        Edges.of(30);
        Edges.says("The most WANTS that can be said in one HOUR.", () -> {
            TwinVoice x = Probe.of("valley pairs 4 hours 3 odds 0;want 0 at 0 worth 99;want 2 at 0 worth 1 to 0;want 4 at 0 worth 1 late to 0;"
                    + "want 6 at 1 worth 1;want 7 at 2 worth 1 late;want 7 at 2 worth 1;");
            Probe.due("whatever they are worth", x.chorus(0), 2);
            Probe.due("late ones too", x.chorus(1), 2);
            Probe.due("none late behind the last", x.chorus(2), 1);
            Probe.due("none", Probe.of(TWO).chorus(2), 0);
            Probe.due("dumb", Probe.of(FEW).chorus(2), 0);
            StringBuilder text = new StringBuilder("valley pairs 4 hours 1 odds 0;");
            for (int person = 0; person < 8; person++) {
                text.append("want ").append(person).append(" at 0 worth 1 whisper;");
            }
            Probe.due("all whisper", Probe.of(text.toString()).chorus(0), 8);
            Probe.due("all aloud", Probe.of(text.toString().replace(" whisper", "")).chorus(0), 4);
        });
        Edges.says("-2: there is none such, no VALLEY.", () -> {
            TwinVoice x = Probe.of(TWO);
            Edges.noneBut("HOUR", 2, x::chorus);
            Edges.noValley("chorus", y -> y.chorus(0));
        });
    }
}
