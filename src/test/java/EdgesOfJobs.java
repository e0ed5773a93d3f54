/** Edges of promises 41 to 44: jobs shared out. */
final class EdgesOfJobs {
    private static final String ONE = "valley pairs 1 hours 3 odds 0;";
    private static final String TWO = "valley pairs 2 hours 3 odds 0;";

    /** 0 and 2 MAY speak at 0, their twins at 1. */
    private static final String TORN = TWO + "lend 0 to 2 at 0;lend 2 to 0 at 0;lend 2 to 1 at 1;lend 0 to 3 at 1;";

    private EdgesOfJobs() {
    }

    static void all() {
        hire();
        hired();
        able();
        asks();
    }

    private static String four(String head, String job) {
        return head + job + job + job + job;
    }

    private static void hire() {
        Edges.of(41);
        Edges.says("JOBS (VI): the greatest pay together.", () -> {
            Probe.due("no JOBS", Probe.of(ONE).hire(), 0);
            Probe.due("one", Probe.of(ONE + "job from 0 to 2 pays 999;").hire(), 999);
            Probe.due("one of four for one PAIR", Probe.of(four(ONE, "job from 1 to 1 pays 999;")).hire(), 999);
            Probe.due("two of four for two", Probe.of(four(TWO, "job from 1 to 1 pays 999;")).hire(), 1998);
            Probe.due("all four for four", Probe.of(four("valley pairs 4 hours 12 odds 0;", "job from 0 to 11 pays 999;")).hire(), 3996);
            Probe.due("two short ones for a long one", Probe.of(ONE + "job from 0 to 2 pays 9;job from 0 to 0 pays 5;job from 2 to 2 pays 5;").hire(), 10);
            Probe.due("nobody is able", Probe.of(TORN + "job from 0 to 1 pays 9;").hire(), 0);
        });
        Edges.says("-2: there is no VALLEY.", () -> Edges.noValley("hire", y -> y.hire()));
    }

    private static void hired() {
        Edges.of(42);
        Edges.says("The PERSON of a JOB by the first such way (JOB by JOB the least PERSON, nobody last, by which it is still as great).", () -> {
            TwinVoice one = Probe.of(ONE + "job from 0 to 0 pays 5;job from 0 to 0 pays 5;job from 1 to 1 pays 5;");
            Probe.due("the least PERSON", one.hired(0), 0);
            Probe.due("nobody last", one.hired(1), -1);
            Probe.due("the least PERSON again", one.hired(2), 0);
            TwinVoice two = Probe.of(TWO + "lend 2 to 0 at 0;job from 0 to 0 pays 1;job from 0 to 0 pays 1;job from 0 to 0 pays 1;");
            Probe.due("the first of three", two.hired(0), 0);
            Probe.due("his twin doesn't SHARE", two.hired(1), 1);
            Probe.due("none left", two.hired(2), -1);
            TwinVoice great = Probe.of(TWO + "lend 0 to 2 at 0;job from 1 to 1 pays 1;job from 0 to 1 pays 1;");
            Probe.due("by which it is still as great", great.hired(0), 0);
            Probe.due("able for it", great.hired(1), 2);
            TwinVoice lesser = Probe.of(ONE + "job from 0 to 2 pays 9;job from 0 to 0 pays 5;job from 2 to 2 pays 5;");
            Probe.due("the long one would make it less", lesser.hired(0), -1);
            TwinVoice last = Probe.of("valley pairs 4 hours 1 odds 0;lend 0 to 7 at 0;lend 2 to 7 at 0;lend 4 to 7 at 0;lend 6 to 0 at 0;"
                    + "job from 0 to 0 pays 1;job from 0 to 0 pays 1;");
            Probe.due("who holds one", last.hired(0), 0);
            Probe.due("the last PERSON", last.hired(1), 7);
        });
        Edges.says("NONE: nobody;", () -> Probe.due("nobody is able", Probe.of(TORN + "job from 0 to 1 pays 9;").hired(0), -1));
        Edges.says("-2: there is none such.", () -> {
            TwinVoice x = Probe.of(four(TWO, "job from 0 to 0 pays 1;"));
            Edges.noneBut("JOB", 3, x::hired);
            Edges.noValley("hired", y -> y.hired(0));
        });
    }

    private static void able() {
        Edges.of(43);
        Edges.says("PERSONS who could do a JOB, were it the only one, as bits.", () -> {
            TwinVoice x = Probe.of(four(TWO, "job from 0 to 2 pays 1;"));
            for (int job = 0; job < 4; job++) {
                Probe.due("all, JOB " + job, x.able(job), 15);
            }
            TwinVoice lent = Probe.of(TWO + "lend 0 to 3 at 1;job from 0 to 0 pays 1;job from 0 to 1 pays 1;job from 1 to 2 pays 1;job from 2 to 2 pays 1;");
            int[] due = {15, 12, 12, 15};
            for (int job = 0; job < 4; job++) {
                Probe.due("lent at 1, JOB " + job, lent.able(job), due[job]);
            }
            Probe.due("nobody", Probe.of(TORN + "job from 0 to 1 pays 9;").able(0), 0);
        });
        Edges.says("-2 likewise.", () -> {
            TwinVoice x = Probe.of(four(TWO, "job from 0 to 0 pays 1;"));
            Edges.noneBut("JOB", 3, x::able);
            Edges.noValley("able", y -> y.able(0));
        });
    }

    private static void asks() {
        Edges.of(44);
        Edges.says("What a JOB must pay at least (1 .. 999), others as they pay, so that it is given in some way of greatest pay.", () -> {
            Probe.due("1, alone", Probe.of(ONE + "job from 0 to 0 pays 999;").asks(0), 1);
            Probe.due("1, beside others", Probe.of(ONE + "job from 0 to 0 pays 9;job from 1 to 1 pays 9;").asks(0), 1);
            Probe.due("as much as the other", Probe.of(ONE + "job from 0 to 0 pays 9;job from 0 to 0 pays 7;").asks(0), 7);
            Probe.due("as much as the other, who pays more", Probe.of(ONE + "job from 0 to 0 pays 9;job from 0 to 0 pays 7;").asks(1), 9);
            Probe.due("999", Probe.of(ONE + "job from 0 to 0 pays 1;job from 0 to 0 pays 999;").asks(0), 999);
            Probe.due("the lesser of two others", Probe.of(TWO + "job from 0 to 0 pays 1;job from 0 to 0 pays 5;job from 0 to 0 pays 6;").asks(0), 5);
            TwinVoice x = Probe.of(ONE + "job from 0 to 0 pays 9;job from 0 to 0 pays 7;");
            x.asks(1);
            Probe.due("it pays as before", x.hire(), 9);
        });
        Edges.says("NONE: by none;", () -> {
            Probe.due("1000", Probe.of(ONE + "job from 0 to 1 pays 1;job from 0 to 0 pays 999;job from 1 to 1 pays 1;").asks(0), -1);
            Probe.due("nobody is able", Probe.of(TORN + "job from 0 to 1 pays 9;").asks(0), -1);
        });
        Edges.says("-2 likewise.", () -> {
            TwinVoice x = Probe.of(four(TWO, "job from 0 to 0 pays 1;"));
            Edges.noneBut("JOB", 3, x::asks);
            Edges.noValley("asks", y -> y.asks(0));
        });
    }
}
