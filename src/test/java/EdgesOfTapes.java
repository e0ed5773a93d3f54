/** Edges of promises 1 to 8: a new object, the tape, the valley's rows. */
final class EdgesOfTapes {
    private static final String HEAD = "valley pairs 2 hours 3 odds 50;";

    private EdgesOfTapes() {
    }

    static void all() {
        newObject();
        feed();
        end();
        valley();
        fault();
        want();
        lendAndJob();
    }

    private static void newObject() {
        Edges.of(1);
        Edges.says("No VALLEY.", () -> {
            TwinVoice x = new TwinVoice();
            Probe.due("plan()", x.plan(), -2);
            for (int what = 0; what <= 9; what++) {
                Probe.due("count(" + what + ")", x.count(what), 0);
            }
            Probe.due("fault(0)", x.fault(0), 0);
            for (int k = 0; k < 3; k++) {
                Probe.due("IMAGE " + k, x.back(k), -6);
            }
            for (int slot = 0; slot < 4; slot++) {
                Probe.due("SLOT " + slot, x.write(slot, 0, 0), -6);
            }
            TwinVoice other = Probe.of(HEAD);
            Probe.due("another object has one", other.plan(), 0);
            Probe.due("this one has none", x.plan(), -2);
        });
    }

    private static void feed() {
        Edges.of(2);
        Edges.says("Twenty bytes come behind the TAPE, four of each number, the highest first:", () -> {
            TwinVoice x = new TwinVoice();
            x.feed(0x76616c6c, 0x65792070, 0x61697273, 0x20312068, 0x6f757273);
            x.feed(0x2032206f, 0x64647320, 0x333b0a0a, 0x0a0a0a0a, 0x20202020);
            Probe.due("valley()", x.valley(), 1);
            Probe.due("pairs", x.count(0), 1);
            Probe.due("hours", x.count(1), 2);
            Probe.due("odds", x.count(2), 3);
            x.feed(-1, 0, 0, 0, 0);
            Probe.due("bytes of -1", x.valley(), -4);
            Probe.due("are no blanks", x.fault(1), 0);
            x.end(0);
            x.feed(0x20202020, 0x20202020, 0x20202020, 0x20202020, 0x202020ff);
            x.valley();
            Probe.due("the last byte is the last number's lowest", x.fault(1), 19);
        });
        Edges.says("how many it has;", () -> {
            TwinVoice x = new TwinVoice();
            Probe.due("twenty", x.feed(0, 0, 0, 0, 0), 20);
            Probe.due("forty", x.feed(0, 0, 0, 0, 0), 40);
            x.end(1);
            Probe.due("behind one", x.feed(0, 0, 0, 0, 0), 21);
        });
        Edges.says("NONE, and none come, if it would have more than 800.", () -> {
            TwinVoice x = new TwinVoice();
            for (int i = 1; i < 40; i++) {
                x.feed(0x20202020, 0x20202020, 0x20202020, 0x20202020, 0x20202020);
            }
            Probe.due("just 800", x.feed(0x20202020, 0x20202020, 0x20202020, 0x20202020, 0x20202020), 800);
            Probe.due("820", x.feed(0, 0, 0, 0, 0), -1);
            Probe.due("none came", x.count(8), 800);
            x.end(781);
            Probe.due("801", x.feed(0, 0, 0, 0, 0), -1);
            Probe.due("none came to 781", x.count(8), 781);
            Probe.due("781 blanks still", x.valley(), 0);
            Probe.due("empty then, it takes twenty", x.feed(0, 0, 0, 0, 0), 20);
        });
    }

    private static void end() {
        Edges.of(3);
        Edges.says("The TAPE has its first n bytes alone: n;", () -> {
            TwinVoice x = new TwinVoice();
            Probe.due("end(0) of an empty one", x.end(0), 0);
            Probe.tape(x, HEAD + "want");
            Probe.due("all that it has", x.end(35), 35);
            Probe.due("one less", x.end(34), 34);
            Probe.due("up to the LINE", x.end(31), 31);
            Probe.due("count(8)", x.count(8), 31);
            Probe.due("what stood behind is gone", x.valley(), 1);
            Probe.tape(x, HEAD + "?");
            x.end(31);
            x.feed(0x20202020, 0x20202020, 0x20202020, 0x20202020, 0x20202020);
            Probe.due("and others come there", x.valley(), 1);
            Probe.tape(x, HEAD);
            Probe.due("end(0)", x.end(0), 0);
            Probe.due("none are left", x.valley(), 0);
        });
        Edges.says("NONE, and nothing happens, if it has not so many, or n is below 0.", () -> {
            TwinVoice x = new TwinVoice();
            Probe.due("end(1) of an empty one", x.end(1), -1);
            Probe.tape(x, HEAD);
            for (int n : new int[] {32, 40, 800, 801, Integer.MAX_VALUE, -1, Integer.MIN_VALUE}) {
                Probe.due("end(" + n + ")", x.end(n), -1);
                Probe.due("bytes", x.count(8), 31);
            }
            Probe.due("the text is whole", x.valley(), 1);
        });
    }

    private static void valley() {
        Edges.of(4);
        Edges.says("The TAPE (empty then) is the VALLEY", () -> {
            TwinVoice x = new TwinVoice();
            Probe.tape(x, HEAD + "want 0 at 0 worth 1;");
            Probe.due("LINES", x.valley(), 2);
            Probe.due("empty then", x.count(8), 0);
            Probe.due("the WANT stays", x.want(0, 2), 1);
        });
        Edges.says("(in place of another)", () -> {
            TwinVoice x = Probe.of("valley pairs 4 hours 12 odds 99;want 7 at 11 worth 9;lend 0 to 7 at 11;job from 0 to 11 pays 9;");
            Probe.due("LINES", Probe.read(x, "valley pairs 1 hours 1 odds 0;"), 1);
            int[] due = {1, 1, 0, 0, 0, 0, 0, 1, 0, 0};
            for (int what = 0; what <= 9; what++) {
                Probe.due("count(" + what + ")", x.count(what), due[what]);
            }
            Probe.due("HOUR 1", x.may(1), -2);
            Probe.due("HOUR 0", x.may(0), 3);
            Probe.due("PERSON 2", x.run(2), -2);
            Probe.due("idle", x.idle(0), 1);
            Probe.due("worth", x.plan(), 0);
            Probe.due("ways", x.ways(), 1);
            Probe.due("pay", x.hire(), 0);
            Probe.due("and another LINE", Probe.read(x, "valley pairs 1 hours 1 odds 0;want 0 at 0 worth 9;"), 2);
            Probe.due("its worth", x.plan(), 9);
            Probe.due("its ways", x.ways(), 1);
            Probe.due("its first PLAN", x.planned(0), 1);
        });
        Edges.says("nothing said:", () -> {
            TwinVoice x = Probe.of(HEAD + "want 0 at 0 worth 1;");
            x.say(0, 0);
            Probe.read(x, HEAD + "want 0 at 0 worth 1;");
            Probe.due("said()", x.said(), 0);
            Probe.due("count(6)", x.count(6), 0);
            Probe.due("undo()", x.undo(), -5);
            Probe.due("it can be said", x.say(0, 0), 1);
        });
        Edges.says("how many LINES (0: there is none then).", () -> {
            TwinVoice x = new TwinVoice();
            Probe.due("an empty TAPE", x.valley(), 0);
            Probe.due("none", x.plan(), -2);
            Probe.due("one LINE", Probe.read(x, HEAD), 1);
            Probe.due("there is one", x.plan(), 0);
            Probe.due("blanks alone", Probe.read(x, " \n"), 0);
            Probe.due("there is none then", x.plan(), -2);
            Probe.due("no PERSON", x.hours(0), -2);
            for (int what = 0; what <= 9; what++) {
                Probe.due("then, count(" + what + ")", x.count(what), 0);
            }
        });
        Edges.says("-4: a FAULT (all stays).", () -> {
            TwinVoice x = Probe.of(HEAD + "want 0 at 0 worth 1;want 2 at 1 worth 5;lend 2 to 0 at 2;job from 0 to 1 pays 7;");
            x.say(1, 0);
            Probe.fill(x, 2, 1, 0, 0, 1, 0);
            Probe.tape(x, "valley pairs 1 hours 1 odds 0;want 0 at 0 worth 9;lend");
            Edges.stays("valley()", x, -4, y -> y.valley());
            Probe.due("the TAPE too", x.count(8), 54);
            Probe.due("and again", x.valley(), -4);
            Probe.due("undo()", x.undo(), 0);
            x.end(50);
            Probe.due("its good LINES", x.valley(), 2);
        });
    }

    private static void fault() {
        Edges.of(5);
        Edges.says("Of the latest valley(), what 0: its FAULT, 0 without, 1: its place (NONE without).", () -> {
            TwinVoice x = new TwinVoice();
            Probe.read(x, HEAD + "want 4");
            Probe.due("its FAULT", x.fault(0), 2);
            Probe.due("its place", x.fault(1), 36);
            Probe.read(x, HEAD);
            Probe.due("without", x.fault(0), 0);
            Probe.due("NONE without", x.fault(1), -1);
            Probe.read(x, "?");
            Probe.due("place 0", x.fault(1), 0);
            Probe.due("FAULT 1", x.fault(0), 1);
            Probe.tape(x, HEAD);
            Probe.due("a TAPE alone changes nothing", x.fault(0), 1);
            x.end(0);
            x.valley();
            Probe.due("an empty TAPE has none", x.fault(0), 0);
            Probe.due("nor a place", x.fault(1), -1);
        });
        Edges.says("NONE for another what, and ahead of any (what 1).", () -> {
            TwinVoice x = new TwinVoice();
            Probe.due("ahead of any, what 1", x.fault(1), -1);
            Probe.due("ahead of any, what 0", x.fault(0), 0);
            for (int round = 0; round < 2; round++) {
                for (int what : new int[] {-1, 2, 3, Integer.MIN_VALUE, Integer.MAX_VALUE}) {
                    Probe.due("fault(" + what + ")", x.fault(what), -1);
                }
                Probe.read(x, "?");
            }
        });
    }

    private static void want() {
        Edges.of(6);
        Edges.says("Of a WANT, what 0: its PERSON, 1: HOUR, 2: worth, 3: 1 if it is whispered, else 0, 4: 1 if it may be late, else 0,"
                + " 5: to whom (NONE: nobody).", () -> {
            TwinVoice x = Probe.of(HEAD + "want 3 at 2 worth 99 whisper to 0;want 0 at 0 worth 1 late;");
            int[][] due = {{3, 2, 99, 1, 0, 0}, {0, 0, 1, 0, 1, -1}};
            for (int want = 0; want < 2; want++) {
                for (int what = 0; what < 6; what++) {
                    Probe.due("want(" + want + ", " + what + ")", x.want(want, what), due[want][what]);
                }
            }
        });
        Edges.says("-2: there are none such.", () -> {
            TwinVoice x = Probe.of(HEAD + "want 3 at 2 worth 99 whisper to 0;want 0 at 0 worth 1 late;");
            Edges.noneBut("want", 1, want -> x.want(want, 0));
            Edges.noneBut("what", 5, what -> x.want(1, what));
            Edges.noValley("want", y -> y.want(0, 0));
        });
    }

    private static void lendAndJob() {
        Edges.of(7);
        Edges.says("Of a LEND, what 0: who lends, 1: to whom, 2: HOUR.", () -> {
            TwinVoice x = Probe.of(HEAD + "lend 1 to 2 at 0;lend 0 to 3 at 2;");
            int[][] due = {{1, 2, 0}, {0, 3, 2}};
            for (int lend = 0; lend < 2; lend++) {
                for (int what = 0; what < 3; what++) {
                    Probe.due("lend(" + lend + ", " + what + ")", x.lend(lend, what), due[lend][what]);
                }
            }
        });
        Edges.says("-2: there are none such.", () -> {
            TwinVoice x = Probe.of(HEAD + "lend 1 to 2 at 0;lend 0 to 3 at 2;");
            Edges.noneBut("lend", 1, lend -> x.lend(lend, 0));
            Edges.noneBut("what", 2, what -> x.lend(1, what));
            Edges.noValley("lend", y -> y.lend(0, 0));
        });
        Edges.of(8);
        Edges.says("Of a JOB, what 0: first HOUR, 1: last one, 2: pays.", () -> {
            TwinVoice x = Probe.of(HEAD + "job from 0 to 2 pays 999;job from 1 to 1 pays 1;");
            int[][] due = {{0, 2, 999}, {1, 1, 1}};
            for (int job = 0; job < 2; job++) {
                for (int what = 0; what < 3; what++) {
                    Probe.due("job(" + job + ", " + what + ")", x.job(job, what), due[job][what]);
                }
            }
        });
        Edges.says("-2: there are none such.", () -> {
            TwinVoice x = Probe.of(HEAD + "job from 0 to 2 pays 999;job from 1 to 1 pays 1;");
            Edges.noneBut("job", 1, job -> x.job(job, 0));
            Edges.noneBut("what", 2, what -> x.job(1, what));
            Edges.noValley("job", y -> y.job(0, 0));
        });
    }
}
