/** Edges of promises 9 to 18 and 37 to 40: who has which voice, what clashes, whose hours. */
final class EdgesOfVoices {
    private static final String TWO = "valley pairs 2 hours 3 odds 50;";
    private static final String FOUR = "valley pairs 4 hours 12 odds 50;";

    private EdgesOfVoices() {
    }

    static void all() {
        voice();
        holds();
        mayAndDumb();
        rings();
        mute();
        can();
        clash();
        clashes();
        hoursAndIdle();
        runAndAsked();
    }

    private static void voice() {
        Edges.of(9);
        Edges.says("VOICE (II): with whom that of a PAIR is in an HOUR.", () -> {
            TwinVoice x = Probe.of(FOUR + "lend 7 to 0 at 11;lend 6 to 1 at 0;lend 0 to 7 at 11;");
            Probe.due("the last PAIR, the last HOUR", x.voice(3, 11), 0);
            Probe.due("the last PAIR, HOUR 0", x.voice(3, 0), 1);
            Probe.due("back with the first twin", x.voice(0, 11), 7);
        });
        Edges.says("NONE: at home;", () -> {
            TwinVoice x = Probe.of(FOUR + "lend 7 to 0 at 11;");
            Probe.due("the HOUR before", x.voice(3, 10), -1);
            Probe.due("who holds it has his own at home", x.voice(0, 11), -1);
            Probe.due("PAIR 0, HOUR 0", x.voice(0, 0), -1);
        });
        Edges.says("-2: there are none such.", () -> {
            TwinVoice x = Probe.of(TWO);
            Edges.noneBut("PAIR", 1, pair -> x.voice(pair, 0));
            Edges.noneBut("HOUR", 2, hour -> x.voice(1, hour));
            Edges.noValley("voice", y -> y.voice(0, 0));
        });
    }

    private static void holds() {
        Edges.of(10);
        Edges.says("How many lent VOICES a PERSON holds in an HOUR.", () -> {
            TwinVoice x = Probe.of(FOUR + "lend 2 to 0 at 11;lend 4 to 0 at 11;lend 7 to 0 at 11;lend 0 to 2 at 11;lend 6 to 0 at 0;");
            Probe.due("three, though his own is lent", x.holds(0, 11), 3);
            Probe.due("one", x.holds(2, 11), 1);
            Probe.due("his twin none", x.holds(1, 11), 0);
            Probe.due("one, HOUR 0", x.holds(0, 0), 1);
            Probe.due("none, HOUR 1", x.holds(0, 1), 0);
            Probe.due("his own at home is not lent", x.holds(2, 0), 0);
        });
        Edges.says("-2: there are none such.", () -> {
            TwinVoice x = Probe.of(TWO);
            Edges.noneBut("PERSON", 3, person -> x.holds(person, 2));
            Edges.noneBut("HOUR", 2, hour -> x.holds(3, hour));
            Edges.noValley("holds", y -> y.holds(0, 0));
        });
    }

    private static void mayAndDumb() {
        String rings = FOUR + "lend 0 to 2 at 5;lend 2 to 4 at 5;lend 4 to 6 at 5;lend 6 to 2 at 5;";
        Edges.of(11);
        Edges.says("PERSONS who MAY speak in an HOUR, as bits.", () -> {
            TwinVoice x = Probe.of(rings);
            Probe.due("all", x.may(4), 255);
            Probe.due("who holds one", x.may(5), Probe.set(2, 4, 6));
            Probe.due("all of one PAIR", Probe.of("valley pairs 1 hours 1 odds 0;").may(0), 3);
        });
        Edges.says("-2: there is none such, no VALLEY.", () -> {
            TwinVoice x = Probe.of(TWO);
            Edges.noneBut("HOUR", 2, x::may);
            Edges.noValley("may", y -> y.may(0));
        });
        Edges.of(12);
        Edges.says("PERSONS who may not, as bits.", () -> {
            TwinVoice x = Probe.of(rings);
            Probe.due("none", x.dumb(4), 0);
            Probe.due("of four PAIRS", x.dumb(5), Probe.set(0, 1, 3, 5, 7));
            Probe.due("none of one PAIR", Probe.of("valley pairs 1 hours 1 odds 0;").dumb(0), 0);
        });
        Edges.says("-2 likewise.", () -> {
            TwinVoice x = Probe.of(TWO);
            Edges.noneBut("HOUR", 2, x::dumb);
            Edges.noValley("dumb", y -> y.dumb(0));
        });
    }

    private static void rings() {
        String two = FOUR + "lend 0 to 3 at 0;lend 3 to 1 at 0;lend 4 to 6 at 0;lend 7 to 5 at 0;";
        String four = FOUR + "lend 0 to 2 at 1;lend 2 to 4 at 1;lend 4 to 6 at 1;lend 6 to 0 at 1;";
        String tail = FOUR + "lend 0 to 2 at 2;lend 2 to 4 at 2;lend 4 to 2 at 2;lend 6 to 0 at 2;";
        String chain = FOUR + "lend 0 to 2 at 3;lend 2 to 4 at 3;lend 4 to 6 at 3;lend 6 to 0 at 4;";
        Edges.of(13);
        Edges.says("RINGS of lending in an HOUR: PAIRS of which each lends to the next one, the last to the first: how many.", () -> {
            Probe.due("two of two", Probe.of(two).rings(0), 2);
            Probe.due("one of four", Probe.of(four).rings(1), 1);
            Probe.due("with a tail", Probe.of(tail).rings(2), 1);
            Probe.due("a chain is none", Probe.of(chain).rings(3), 0);
            Probe.due("nor with another HOUR's", Probe.of(chain).rings(4), 0);
            Probe.due("none lends", Probe.of(two).rings(1), 0);
            Probe.due("one PAIR alone", Probe.of("valley pairs 1 hours 1 odds 0;").rings(0), 0);
            Probe.due("two PAIRS", Probe.of(TWO + "lend 1 to 3 at 2;lend 2 to 0 at 2;").rings(2), 1);
        });
        Edges.says("-2 likewise.", () -> {
            TwinVoice x = Probe.of(TWO);
            Edges.noneBut("HOUR", 2, x::rings);
            Edges.noValley("rings", y -> y.rings(0));
        });
        Edges.of(14);
        Edges.says("PAIRS in a RING in an HOUR, as bits.", () -> {
            Probe.due("two of two", Probe.of(two).ring(0), 15);
            Probe.due("one of four", Probe.of(four).ring(1), 15);
            Probe.due("a tail is in none", Probe.of(tail).ring(2), Probe.set(1, 2));
            Probe.due("a chain", Probe.of(chain).ring(3), 0);
            Probe.due("none lends", Probe.of(two).ring(1), 0);
        });
        Edges.says("-2 likewise.", () -> {
            TwinVoice x = Probe.of(TWO);
            Edges.noneBut("HOUR", 2, x::ring);
            Edges.noValley("ring", y -> y.ring(0));
        });
    }

    private static void mute() {
        Edges.of(15);
        Edges.says("The HOUR in which most are dumb, the first of several, if any is.", () -> {
            Probe.due("first of several", Probe.of(TWO + "lend 0 to 2 at 2;lend 2 to 0 at 1;").mute(), 1);
            Probe.due("most, the last HOUR", Probe.of(FOUR + "lend 0 to 2 at 0;lend 0 to 2 at 11;lend 4 to 2 at 11;").mute(), 11);
            Probe.due("HOUR 0", Probe.of(TWO + "lend 0 to 2 at 0;").mute(), 0);
            Probe.due("one who is dumb counts", Probe.of(TWO + "lend 0 to 2 at 1;lend 2 to 0 at 1;lend 0 to 2 at 2;").mute(), 1);
        });
        Edges.says("NONE: none;", () -> {
            Probe.due("no LEND", Probe.of(TWO).mute(), -1);
            Probe.due("one PAIR", Probe.of("valley pairs 1 hours 1 odds 0;").mute(), -1);
        });
        Edges.says("-2: there is no VALLEY.", () -> Edges.noValley("mute", y -> y.mute()));
    }

    private static void can() {
        Edges.of(16);
        Edges.says("How a WANT can be said, as bits: 1 in its HOUR, 2 in the next.", () -> {
            TwinVoice x = Probe.of(TWO + "want 0 at 0 worth 1;want 0 at 0 worth 1 late;want 2 at 0 worth 1 late;want 2 at 1 worth 1;"
                    + "want 2 at 1 worth 1 late;want 0 at 2 worth 1 late;lend 2 to 0 at 1;");
            int[] due = {1, 3, 1, 0, 2, 1};
            for (int want = 0; want < due.length; want++) {
                Probe.due("can(" + want + ")", x.can(want), due[want]);
            }
            x.say(0, 0);
            Probe.due("acts aside", x.can(1), 3);
        });
        Edges.says("-2: there is none such.", () -> {
            TwinVoice x = Probe.of(TWO + "want 0 at 0 worth 1;want 0 at 0 worth 1 late;");
            Edges.noneBut("WANT", 1, x::can);
            Edges.noValley("can", y -> y.can(0));
        });
    }

    private static void clash() {
        Edges.of(17);
        Edges.says("1 if two WANTS, each in its own HOUR (0) or the next (1), CLASH, else 0", () -> {
            TwinVoice x = Probe.of(TWO + "want 0 at 0 worth 1 late;want 1 at 1 worth 1 late;want 0 at 2 worth 1;");
            Probe.due("0, 0", x.clash(0, 0, 1, 0), 0);
            Probe.due("1, 0", x.clash(0, 1, 1, 0), 1);
            Probe.due("0, 1", x.clash(0, 0, 1, 1), 0);
            Probe.due("1, 1", x.clash(0, 1, 1, 1), 0);
            Probe.due("the other way", x.clash(1, 0, 0, 1), 1);
            Probe.due("into the last HOUR", x.clash(1, 1, 2, 0), 1);
        });
        Edges.says("(whether they can be said then or not;", () -> {
            TwinVoice x = Probe.of(TWO + "want 0 at 0 worth 1;want 1 at 0 worth 1;want 2 at 0 worth 1 to 0;lend 0 to 3 at 0;");
            Probe.due("neither can be", x.can(0) + x.can(1), 0);
            Probe.due("they CLASH", x.clash(0, 0, 1, 0), 1);
            Probe.due("one can be", x.clash(0, 0, 2, 0), 1);
        });
        Edges.says("0, if there is no such HOUR).", () -> {
            TwinVoice x = Probe.of(TWO + "want 0 at 2 worth 1 late;want 0 at 2 worth 1 late;want 0 at 1 worth 1 late;");
            Probe.due("both behind the last", x.clash(0, 1, 1, 1), 0);
            Probe.due("one behind it", x.clash(0, 1, 1, 0), 0);
            Probe.due("the other one", x.clash(0, 0, 1, 1), 0);
            Probe.due("just in it", x.clash(2, 1, 0, 0), 1);
            TwinVoice one = Probe.of("valley pairs 1 hours 1 odds 0;want 0 at 0 worth 1 late;want 0 at 0 worth 1 late;");
            Probe.due("of one HOUR", one.clash(0, 1, 1, 1), 0);
        });
        Edges.says("-2: there are none such, one twice, a late one that may not be.", () -> {
            TwinVoice x = Probe.of(TWO + "want 0 at 0 worth 1;want 0 at 0 worth 1 late;want 0 at 0 worth 1;");
            Edges.noneBut("the first", 1, want -> x.clash(want, 0, 2, 0));
            Probe.due("no third", x.clash(3, 0, 2, 0), -2);
            Edges.noneBut("late", 1, late -> x.clash(1, late, 0, 0));
            Edges.noneBut("other late", 1, late -> x.clash(0, 0, 1, late));
            Edges.noneBut("late that may not be", 0, late -> x.clash(0, late, 1, 0));
            Edges.noneBut("other that may not be", 0, late -> x.clash(1, 0, 0, late));
            for (int want = 0; want < 3; want++) {
                Probe.due("one twice, " + want, x.clash(want, 0, want, 0), -2);
            }
            Probe.due("one twice, in two HOURS", x.clash(1, 0, 1, 1), -2);
            Probe.due("no other below", x.clash(0, 0, -1, 0), -2);
            Probe.due("no other above", x.clash(0, 0, 3, 0), -2);
            Edges.noValley("clash", y -> y.clash(0, 0, 1, 0));
        });
    }

    private static void clashes() {
        Edges.of(18);
        Edges.says("WANTS that CLASH with a WANT, all in their HOURS, as bits.", () -> {
            StringBuilder text = new StringBuilder(TWO);
            for (int i = 0; i < 9; i++) {
                text.append("want 0 at 0 worth 1;");
            }
            TwinVoice x = Probe.of(text.toString());
            for (int want = 0; want < 9; want++) {
                Probe.due("not with itself, " + want, x.clashes(want), 511 & ~(1 << want));
            }
            TwinVoice late = Probe.of(TWO + "want 0 at 0 worth 1 late;want 0 at 1 worth 1;want 1 at 0 worth 1;");
            Probe.due("in their HOURS", late.clashes(0), Probe.set(2));
            Probe.due("not late", late.clashes(1), 0);
            TwinVoice dumb = Probe.of(TWO + "want 0 at 0 worth 1;want 1 at 0 worth 1;lend 0 to 2 at 0;");
            Probe.due("though they can't be said", dumb.clashes(0), Probe.set(1));
        });
        Edges.says("-2: there is none such.", () -> {
            TwinVoice x = Probe.of(TWO + "want 0 at 0 worth 1;want 0 at 0 worth 1 late;");
            Edges.noneBut("WANT", 1, x::clashes);
            Edges.noValley("clashes", y -> y.clashes(0));
        });
    }

    private static void hoursAndIdle() {
        String text = FOUR + "want 0 at 0 worth 1;want 0 at 11 worth 1 late;want 0 at 11 worth 2;want 7 at 5 worth 1 late;lend 6 to 0 at 1;"
                + "lend 0 to 6 at 11;";
        Edges.of(37);
        Edges.says("HOURS in which a PERSON has a WANT (its own HOUR), as bits.", () -> {
            TwinVoice x = Probe.of(text);
            Probe.due("the first and the last", x.hours(0), Probe.set(0, 11));
            Probe.due("its own, not the next", x.hours(7), Probe.set(5));
            Probe.due("without", x.hours(1), 0);
        });
        Edges.says("-2: there is none such.", () -> {
            TwinVoice x = Probe.of(TWO);
            Edges.noneBut("PERSON", 3, x::hours);
            Edges.noValley("hours", y -> y.hours(0));
        });
        Edges.of(38);
        Edges.says("HOURS in which the VOICE of a PAIR is at home, and neither twin has a WANT (its own HOUR), as bits.", () -> {
            TwinVoice x = Probe.of(text);
            Probe.due("neither twin, PAIR 0", x.idle(0), 4095 & ~Probe.set(0, 11));
            Probe.due("at home, PAIR 3; the next HOUR is", x.idle(3), 4095 & ~Probe.set(1, 5));
            Probe.due("all", x.idle(1), 4095);
            TwinVoice first = Probe.of(FOUR + "want 6 at 3 worth 1;want 1 at 4 worth 1;want 3 at 5 worth 1;");
            Probe.due("the first twin's WANT", first.idle(3), 4095 & ~Probe.set(3));
            Probe.due("the second twin's WANT", first.idle(1), 4095 & ~Probe.set(5));
            Probe.due("none", Probe.of("valley pairs 1 hours 1 odds 0;want 1 at 0 worth 1;").idle(0), 0);
            Probe.due("holding is no matter", Probe.of(TWO + "lend 0 to 2 at 1;").idle(1), 7);
        });
        Edges.says("-2: there is no such PAIR.", () -> {
            TwinVoice x = Probe.of(TWO);
            Edges.noneBut("PAIR", 1, x::idle);
            Edges.noValley("idle", y -> y.idle(0));
        });
    }

    private static void runAndAsked() {
        Edges.of(39);
        Edges.says("The most HOURS one behind the other in which a PERSON MAY speak.", () -> {
            TwinVoice x = Probe.of(FOUR + "lend 0 to 2 at 3;lend 1 to 2 at 4;lend 2 to 1 at 4;lend 4 to 3 at 0;lend 4 to 3 at 11;");
            Probe.due("the last ones", x.run(0), 7);
            Probe.due("holds one, from there on", x.run(1), 8);
            Probe.due("all", x.run(7), 12);
            Probe.due("all, holding", x.run(2), 12);
            Probe.due("the first ones", x.run(3), 7);
            Probe.due("between two", x.run(4), 10);
            Probe.due("no HOUR", Probe.of("valley pairs 2 hours 1 odds 0;lend 0 to 2 at 0;").run(1), 0);
            Probe.due("one HOUR", Probe.of("valley pairs 2 hours 1 odds 0;lend 0 to 2 at 0;").run(3), 1);
        });
        Edges.says("-2: there is none such.", () -> {
            TwinVoice x = Probe.of(TWO);
            Edges.noneBut("PERSON", 3, x::run);
            Edges.noValley("run", y -> y.run(0));
        });
        Edges.of(40);
        Edges.says("WANTS to a PERSON, as bits.", () -> {
            StringBuilder text = new StringBuilder(FOUR);
            for (int i = 0; i < 9; i++) {
                text.append("want 0 at 0 worth 1").append(i % 4 == 0 ? " to 7;" : i == 2 ? " to 1;" : ";");
            }
            TwinVoice x = Probe.of(text.toString());
            Probe.due("the first and the last", x.asked(7), Probe.set(0, 4, 8));
            Probe.due("the twin", x.asked(1), Probe.set(2));
            Probe.due("nobody asks him", x.asked(0), 0);
        });
        Edges.says("-2 likewise.", () -> {
            TwinVoice x = Probe.of(TWO);
            Edges.noneBut("PERSON", 3, x::asked);
            Edges.noValley("asked", y -> y.asked(0));
        });
    }
}
