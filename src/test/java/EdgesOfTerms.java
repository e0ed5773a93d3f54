import java.math.BigInteger;

/** Edges of terms II to VIII: voices, plans, splits, spite, jobs, calls, draws. */
final class EdgesOfTerms {
    private static final String FOUR = "valley pairs 4 hours 3 odds 50;";

    private EdgesOfTerms() {
    }

    static void all() {
        voices();
        clashing();
        plans();
        splits();
        spite();
        jobs();
        calls();
        draws();
    }

    private static void voices() {
        Edges.of("II");
        Edges.says("VOICE of a PAIR in an HOUR: with the PERSON to whom one of the PAIR lends it then, else at home.", () -> {
            TwinVoice x = Probe.of(FOUR + "lend 0 to 7 at 1;lend 3 to 0 at 1;");
            int[] due = {7, 0, -1, -1};
            for (int pair = 0; pair < 4; pair++) {
                Probe.due("the HOUR before, " + pair, x.voice(pair, 0), -1);
                Probe.due("then, " + pair, x.voice(pair, 1), due[pair]);
                Probe.due("the HOUR after, " + pair, x.voice(pair, 2), -1);
            }
        });
        Edges.says("A PERSON MAY speak then, if he holds a lent VOICE, or his own PAIR's is at home.", () -> {
            TwinVoice x = Probe.of(FOUR + "lend 0 to 2 at 1;lend 2 to 1 at 1;lend 4 to 7 at 1;");
            Probe.due("all before", x.may(0), 255);
            Probe.due("lent and holding 1, 2; home 6, 7", x.may(1), Probe.set(1, 2, 6, 7));
            Probe.due("all after", x.may(2), 255);
            TwinVoice twice = Probe.of(FOUR + "lend 0 to 2 at 1;lend 0 to 2 at 2;lend 2 to 0 at 1;lend 2 to 0 at 2;");
            Probe.due("lent and holding", twice.may(1), 255 & ~Probe.set(1, 3));
            Probe.due("lent and holding again", twice.may(2), 255 & ~Probe.set(1, 3));
        });
        Edges.says("Twins SHARE, if neither holds a lent one.", () -> {
            String wants = "want 0 at 0 worth 1;want 1 at 0 worth 1;want 2 at 0 worth 1;want 3 at 0 worth 1;";
            Probe.due("at home", Probe.of(FOUR + wants).clash(0, 0, 1, 0), 1);
            Probe.due("lent away", Probe.of(FOUR + wants + "lend 0 to 4 at 0;").clash(0, 0, 1, 0), 1);
            Probe.due("the first holds one", Probe.of(FOUR + wants + "lend 4 to 0 at 0;").clash(0, 0, 1, 0), 0);
            Probe.due("the second holds one", Probe.of(FOUR + wants + "lend 4 to 1 at 0;").clash(0, 0, 1, 0), 0);
            Probe.due("lent away, holds one", Probe.of(FOUR + wants + "lend 0 to 4 at 0;lend 4 to 1 at 0;").clash(0, 0, 1, 0), 0);
            Probe.due("both hold one", Probe.of(FOUR + wants + "lend 4 to 0 at 0;lend 6 to 1 at 0;").clash(0, 0, 1, 0), 0);
            Probe.due("holds one another HOUR", Probe.of(FOUR + wants + "lend 4 to 0 at 1;").clash(0, 0, 1, 0), 1);
            Probe.due("others hold one", Probe.of(FOUR + wants + "lend 4 to 0 at 0;").clash(2, 0, 3, 0), 1);
        });
        Edges.says("A WANT can be said in its HOUR, if it is late, also in the next one (if there is one), when its PERSON MAY.", () -> {
            TwinVoice x = Probe.of(FOUR + "want 0 at 1 worth 1 late;want 0 at 0 worth 1 late;want 0 at 2 worth 1 late;"
                    + "want 0 at 2 worth 1;want 0 at 0 worth 1;want 1 at 1 worth 1;want 2 at 0 worth 1 late;lend 0 to 2 at 1;");
            int[] due = {2, 1, 1, 1, 1, 0, 3};
            for (int want = 0; want < due.length; want++) {
                Probe.due("can(" + want + ")", x.can(want), due[want]);
            }
        });
    }

    private static void clashing() {
        Edges.says("Two that are said CLASH, if it is in one HOUR and: both are of one PERSON;", () -> {
            TwinVoice x = Probe.of(FOUR + "want 0 at 0 worth 1 whisper late;want 0 at 0 worth 1 whisper;want 0 at 1 worth 1 whisper;"
                    + "want 2 at 0 worth 1;lend 4 to 0 at 0;lend 6 to 0 at 0;");
            Probe.due("one PERSON, who whispers and holds two", x.clash(0, 0, 1, 0), 1);
            Probe.due("in two HOURS", x.clash(0, 0, 2, 0), 0);
            Probe.due("late into one HOUR", x.clash(0, 1, 2, 0), 1);
            Probe.due("late out of it", x.clash(0, 1, 1, 0), 0);
            Probe.due("two PERSONS", x.clash(0, 0, 3, 0), 0);
        });
        Edges.says("or of twins who SHARE then, and not both are whispers;", () -> {
            String[] how = {"", " whisper"};
            for (int both = 0; both < 4; both++) {
                String wants = "want 2 at 0 worth 1" + how[both % 2] + ";want 3 at 0 worth 1" + how[both / 2] + ";";
                Probe.due("who SHARE, " + both, Probe.of(FOUR + wants).clash(0, 0, 1, 0), both == 3 ? 0 : 1);
                Probe.due("who don't, " + both, Probe.of(FOUR + wants + "lend 0 to 2 at 0;").clash(0, 0, 1, 0), 0);
            }
            TwinVoice many = Probe.of(FOUR + "want 0 at 1 worth 1;want 0 at 1 worth 1;want 0 at 2 worth 1 whisper;want 6 at 0 worth 1 whisper;"
                    + "want 7 at 0 worth 1;want 7 at 0 worth 1 whisper;want 6 at 0 worth 1;");
            Probe.due("the first whispers", many.clash(3, 0, 4, 0), 1);
            Probe.due("the first whispers, the other way", many.clash(4, 0, 3, 0), 1);
            Probe.due("both whisper", many.clash(3, 0, 5, 0), 0);
            Probe.due("the other whispers", many.clash(6, 0, 5, 0), 1);
            Probe.due("of whispers, the other way", many.clash(5, 0, 3, 0), 0);
            String late = "lend 0 to 2 at 1;want 2 at 0 worth 1 late;want 3 at 0 worth 1 late;";
            Probe.due("then, in its HOUR", Probe.of(FOUR + late).clash(0, 0, 1, 0), 1);
            Probe.due("then, in the next", Probe.of(FOUR + late).clash(0, 1, 1, 1), 0);
        });
        Edges.says("or one is to the PERSON of the other one.", () -> {
            TwinVoice x = Probe.of(FOUR + "want 0 at 0 worth 1 whisper to 2;want 2 at 0 worth 1 whisper;want 3 at 0 worth 1 to 0;"
                    + "want 4 at 0 worth 1 to 2;want 2 at 1 worth 1;want 1 at 0 worth 1 whisper to 3;");
            Probe.due("to the other", x.clash(0, 0, 1, 0), 1);
            Probe.due("from the other", x.clash(1, 0, 0, 0), 1);
            Probe.due("the other to it", x.clash(0, 0, 2, 0), 1);
            Probe.due("both to a third", x.clash(0, 0, 3, 0), 0);
            Probe.due("in two HOURS", x.clash(0, 0, 4, 0), 0);
            Probe.due("to the other's twin", x.clash(1, 0, 5, 0), 0);
            TwinVoice many = Probe.of(FOUR + "want 0 at 1 worth 1 to 4;want 0 at 1 worth 1 to 4;want 0 at 0 worth 1 to 4;want 2 at 0 worth 1 to 6;"
                    + "want 4 at 0 worth 1 to 7;want 6 at 0 worth 1 to 5;");
            Probe.due("each to his own one", many.clashes(2), Probe.set(4));
            Probe.due("from 2", many.clashes(3), Probe.set(5));
            Probe.due("from 4", many.clashes(4), Probe.set(2));
            Probe.due("from 6", many.clashes(5), Probe.set(3));
        });
    }

    private static void plans() {
        Edges.of("III");
        Edges.says("PLAN: a row, WANT by WANT 0 (not said), 1 (in its HOUR), 2 (in the next): none CLASH.", () -> {
            TwinVoice x = Probe.of(FOUR + "want 0 at 0 worth 3 late;want 1 at 0 worth 4;want 1 at 1 worth 1;");
            Probe.due("in the next", x.planned(0), 2);
            Probe.due("in its HOUR", x.planned(1), 1);
            Probe.due("not said", x.planned(2), 0);
            Probe.due("the greatest worth without a CLASH", x.plan(), 7);
        });
        Edges.says("Its worth: of all that are said.", () -> {
            StringBuilder text = new StringBuilder("valley pairs 4 hours 12 odds 0;");
            for (int i = 0; i < 9; i++) {
                text.append("want 0 at ").append(i).append(" worth 99;");
            }
            TwinVoice x = Probe.of(text.toString());
            Probe.due("nine are said", x.plan(), 891);
            Probe.due("none is there", Probe.of(FOUR).plan(), 0);
            Probe.due("none can be", Probe.of(FOUR + "want 0 at 0 worth 9;lend 1 to 2 at 0;").plan(), 0);
        });
    }

    private static void splits() {
        Edges.of("IV");
        Edges.says("SPLIT of a PAIR: a set of HOURS that the first twin has (the lesser by number), the others are the second one's.", () -> {
            TwinVoice x = Probe.of(FOUR + "want 6 at 0 worth 5;want 7 at 1 worth 5;want 7 at 0 worth 4;want 6 at 1 worth 4;");
            Probe.due("the first twin's HOURS", x.split(3), 1);
            Probe.due("the lesser GETS", x.gets(6), 5);
            Probe.due("the other GETS", x.gets(7), 5);
            Probe.due("SPLITS of three HOURS, none wanted", x.calm(0), 8);
            Probe.due("SPLITS of twelve HOURS, none wanted", Probe.of("valley pairs 1 hours 12 odds 0;").calm(0), 4096);
            Probe.due("SPLITS of one HOUR", Probe.of("valley pairs 1 hours 1 odds 0;want 0 at 0 worth 1;").calm(0), 1);
        });
        Edges.says("A PERSON GETS, for each HOUR that he has, the greatest worth of his WANTS of that HOUR (0 without).", () -> {
            TwinVoice x = Probe.of(FOUR + "want 0 at 0 worth 5;want 0 at 0 worth 7;want 0 at 0 worth 6;want 0 at 1 worth 2 late;"
                    + "want 1 at 2 worth 1;want 2 at 0 worth 99;");
            Probe.due("for two HOURS", x.gets(0), 9);
            Probe.due("for one", x.gets(1), 1);
            Probe.due("of another PAIR, 0 without", x.gets(3), 0);
            Probe.due("without any", x.gets(4), 0);
        });
    }

    private static void spite() {
        Edges.of("V");
        Edges.says("SPITE: in an HOUR each twin takes the VOICE or leaves it.", () -> {
            TwinVoice x = Probe.of(FOUR);
            Probe.due("four pairs of choices, all at REST", x.rests(0, 0, 0), 4);
        });
        Edges.says("Who takes it alone has the greatest worth of his WANTS then;", () -> {
            TwinVoice x = Probe.of(FOUR + "want 0 at 0 worth 1 late;want 1 at 1 worth 9;");
            Probe.due("he has it then", x.rests(0, 0, 1), 2);
            Probe.due("the other twin has it then", x.rests(0, 1, 1), 2);
            Probe.due("none then", x.rests(0, 2, 1), 3);
            Probe.due("another PAIR", x.rests(1, 0, 1), 3);
        });
        Edges.says("if both do, each loses a cost; who leaves it has 0.", () -> {
            TwinVoice x = Probe.of(FOUR + "want 0 at 0 worth 5;want 1 at 0 worth 5;");
            Probe.due("a cost of 0 is no loss", x.rests(0, 0, 0), 3);
            Probe.due("a cost of 1 is one", x.rests(0, 0, 1), 2);
            Probe.due("a cost of 99", x.rests(0, 0, 99), 2);
        });
        Edges.says("REST: neither is better by the other choice alone.", () -> {
            TwinVoice x = Probe.of(FOUR + "want 0 at 0 worth 5;");
            Probe.due("as good is not better", x.rests(0, 1, 0), 4);
            Probe.due("one of them is better", x.rests(0, 0, 0), 3);
            Probe.due("and at a cost", x.rests(0, 0, 7), 2);
        });
    }

    private static void jobs() {
        Edges.of("VI");
        Edges.says("JOBS: each is given to one PERSON, or to nobody: he MAY speak in all its HOURS, ", () -> {
            Probe.due("one of its HOURS he may not", Probe.of("valley pairs 2 hours 3 odds 0;lend 0 to 2 at 2;job from 0 to 2 pays 1;").able(0), 12);
            Probe.due("the HOUR after", Probe.of("valley pairs 2 hours 3 odds 0;lend 0 to 2 at 2;job from 0 to 1 pays 1;").able(0), 15);
            Probe.due("the HOUR before", Probe.of("valley pairs 2 hours 3 odds 0;lend 0 to 2 at 0;job from 1 to 2 pays 1;").able(0), 15);
            TwinVoice x = Probe.of("valley pairs 2 hours 1 odds 0;job from 0 to 0 pays 1;job from 0 to 0 pays 1;job from 0 to 0 pays 1;");
            Probe.due("to nobody", x.hired(2), -1);
        });
        Edges.says("has no other one in any of them, ", () -> {
            String head = "valley pairs 1 hours 4 odds 0;job from 0 to 2 pays 5;";
            Probe.due("in the last of them", Probe.of(head + "job from 2 to 3 pays 4;").hire(), 5);
            Probe.due("behind them", Probe.of(head + "job from 3 to 3 pays 4;").hire(), 9);
            Probe.due("inside them", Probe.of(head + "job from 1 to 1 pays 4;").hire(), 5);
            TwinVoice x = Probe.of("valley pairs 2 hours 2 odds 0;lend 0 to 2 at 0;lend 0 to 2 at 1;job from 0 to 1 pays 5;"
                    + "job from 1 to 1 pays 4;");
            Probe.due("his twin has the other one", x.hire(), 9);
            Probe.due("he", x.hired(0), 2);
            Probe.due("his twin", x.hired(1), 3);
        });
        Edges.says("nor has his twin, where they SHARE.", () -> {
            String head = "valley pairs 2 hours 3 odds 0;lend 0 to 2 at 1;lend 1 to 3 at 0;";
            Probe.due("where they don't", Probe.of(head + "job from 0 to 1 pays 5;job from 1 to 1 pays 4;").hire(), 9);
            Probe.due("where they do", Probe.of(head + "job from 1 to 2 pays 5;job from 2 to 2 pays 4;job from 1 to 2 pays 3;job from 2 to 2 pays 2;")
                    .hire(), 9);
            Probe.due("one of two HOURS", Probe.of("valley pairs 2 hours 2 odds 0;lend 0 to 2 at 1;job from 0 to 1 pays 5;"
                    + "job from 0 to 1 pays 4;").hire(), 5);
            Probe.due("of the last PAIR they don't", Probe.of("valley pairs 4 hours 1 odds 0;lend 0 to 6 at 0;lend 2 to 6 at 0;lend 4 to 6 at 0;"
                    + "job from 0 to 0 pays 5;job from 0 to 0 pays 4;").hire(), 9);
            Probe.due("of another they do", Probe.of("valley pairs 4 hours 1 odds 0;lend 0 to 6 at 0;lend 4 to 6 at 0;lend 6 to 4 at 0;"
                    + "job from 0 to 0 pays 5;job from 0 to 0 pays 4;job from 0 to 0 pays 3;job from 0 to 0 pays 2;").hire(), 12);
        });
    }

    private static void calls() {
        Edges.of("VII");
        Edges.says("CALL: someone called aloud in an HOUR.", () -> {
            TwinVoice x = Probe.of(FOUR);
            Probe.fill(x, 0, 0);
            for (int hour = 0; hour < 3; hour++) {
                Probe.due("all may have, HOUR " + hour, x.callers(0, hour), 255);
            }
        });
        Edges.says("A SLOT's row, two numbers each: an HOUR, a PERSON who then spoke aloud elsewhere.", () -> {
            TwinVoice x = Probe.of(FOUR);
            Probe.fill(x, 0, 0, 2, 7, 0, 1);
            Probe.due("HOUR 0, PERSON 1", x.callers(0, 0), 255 - 3);
            Probe.due("HOUR 1, nobody", x.callers(0, 1), 255);
            Probe.due("HOUR 2, PERSON 7", x.callers(0, 2), 63);
        });
        Edges.says("MAY HAVE called: who MAY speak then, did not speak elsewhere then, and whose twin did not, where they SHARE.", () -> {
            TwinVoice x = Probe.of(FOUR + "lend 0 to 2 at 0;");
            Probe.fill(x, 0, 0, 0, 2, 0, 4, 1, 2);
            Probe.due("0, 1 may not; 2 spoke, 3 doesn't SHARE; 4 spoke, 5 SHARES", x.callers(0, 0), Probe.set(3, 6, 7));
            Probe.due("2 spoke, 3 SHARES then", x.callers(0, 1), 255 - 12);
        });
    }

    private static void draws() {
        Edges.of("VIII");
        Edges.says("DRAWS: x becomes (1103515245 x + 12345) modulo 2,147,483,648 (at first it is the seed);"
                + " a draw: x / 65536, cut, modulo 100.", () -> {
            for (int odds = 1; odds < 100; odds += 7) {
                TwinVoice x = Probe.of(apart(odds));
                for (int seed : new int[] {0, 1, 2, 12345, 65535, 65536, 1000000007, 1999999999, 2000000000}) {
                    Probe.due("drawn(" + seed + ", 0), odds " + odds, x.drawn(seed, 0), drawnBelow(seed, odds));
                }
            }
        });
        Edges.says("DAY drawn: WANT by WANT a draw: below odds it is tried in its HOUR;", () -> {
            int draw = draw(7, 0);
            String wants = "want 0 at 0 worth 1 late;lend 0 to 2 at 0;";
            TwinVoice below = Probe.of("valley pairs 2 hours 2 odds " + (draw + 1) + ";" + wants);
            Probe.due("tried, not in the next HOUR", below.drawn(7, 0), 0);
            Probe.due("tried and not said", below.drawn(7, 2), 1);
            TwinVoice even = Probe.of("valley pairs 2 hours 2 odds " + draw + ";" + wants);
            Probe.due("as great as odds, not tried", even.drawn(7, 2), 0);
            TwinVoice all = Probe.of(apart(100));
            TwinVoice none = Probe.of(apart(0));
            for (int seed = 0; seed < 200; seed++) {
                Probe.due("odds 100", all.drawn(seed, 0), 511);
                Probe.due("odds 0", none.drawn(seed, 0), 0);
                Probe.due("odds 0, tried", none.drawn(seed, 2), 0);
            }
        });
        Edges.says("it is said, if it can be and CLASHES with none that was said in this day (acts aside).", () -> {
            TwinVoice x = Probe.of("valley pairs 2 hours 2 odds 100;want 0 at 0 worth 1;want 1 at 0 worth 1;want 2 at 0 worth 1 to 1;"
                    + "want 0 at 1 worth 1;want 3 at 0 worth 1;lend 1 to 2 at 1;");
            Probe.due("said", x.drawn(0, 0), Probe.set(0, 2));
            Probe.due("tried and not said", x.drawn(0, 2), Probe.set(1, 3, 4));
            Probe.due("said now", x.say(1, 0), 1);
            Probe.due("acts aside", x.drawn(0, 0), Probe.set(0, 2));
            Probe.due("nor does a day act", x.said(), Probe.set(1));
        });
    }

    /** Nine WANTS, none of which CLASH. */
    private static String apart(int odds) {
        StringBuilder text = new StringBuilder("valley pairs 1 hours 12 odds " + odds + ";");
        for (int i = 0; i < 9; i++) {
            text.append("want 0 at ").append(i).append(" worth 1;");
        }
        return text.toString();
    }

    static int draw(long seed, int want) {
        BigInteger x = BigInteger.valueOf(seed);
        for (int i = 0; i <= want; i++) {
            x = x.multiply(BigInteger.valueOf(1103515245)).add(BigInteger.valueOf(12345)).mod(BigInteger.valueOf(2147483648L));
        }
        return x.divide(BigInteger.valueOf(65536)).mod(BigInteger.valueOf(100)).intValue();
    }

    private static int drawnBelow(long seed, int odds) {
        int said = 0;
        for (int want = 0; want < 9; want++) {
            said |= draw(seed, want) < odds ? 1 << want : 0;
        }
        return said;
    }
}
