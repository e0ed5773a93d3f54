/** Edges of term I: what a text may tell, and its faults. */
final class EdgesOfTexts {
    private static final String HEAD = "valley pairs 2 hours 3 odds 50;";
    private static final String WIDE = "valley pairs 4 hours 12 odds 50;";

    private EdgesOfTexts() {
    }

    static void all() {
        Edges.of("I");
        lines();
        boundsOfTheFirstLine();
        personsAndHours();
        wantsLendsJobs();
        tokens();
        faults();
        slots();
    }

    private static void lines() {
        Edges.says("VALLEY: {LINE ;}.", () -> {
            Edges.fine("", 0);
            Edges.fine(HEAD, 1);
            Edges.fine(HEAD + "want 0 at 0 worth 1;", 2);
            Edges.fault(HEAD + "want 0 at 0 worth 1", 1, 50);
            Edges.fault(";", 1, 0);
            Edges.fault(HEAD + ";", 1, 31);
        });
        Edges.says("LINE: valley pairs N hours N odds N | want P at H worth N [whisper] [late] [to P] | lend P to P at H"
                + " | job from H to H pays N.", () -> {
            for (int optional = 0; optional < 8; optional++) {
                TwinVoice x = Probe.of(HEAD + "want 3 at 2 worth 9" + (optional % 2 == 1 ? " whisper" : "")
                        + (optional / 2 % 2 == 1 ? " late" : "") + (optional / 4 == 1 ? " to 1" : "") + ";");
                Probe.due("whisper, " + optional, x.want(0, 3), optional % 2);
                Probe.due("late, " + optional, x.want(0, 4), optional / 2 % 2);
                Probe.due("to, " + optional, x.want(0, 5), optional / 4 == 1 ? 1 : -1);
            }
            Edges.fault(HEAD + "want 0 at 0 worth 5 late whisper;", 1, 56);
            Edges.fault(HEAD + "want 0 at 0 worth 5 to 1 late;", 1, 56);
            Edges.fault(HEAD + "want 0 at 0 worth 5 to 1 to 2;", 1, 56);
            Edges.fault(HEAD + "want 0 at 0 worth 5 whisper whisper;", 1, 59);
            Edges.fault(HEAD + "want 0 worth 5 at 0;", 1, 38);
            Edges.fine(HEAD + "lend 0 to 2 at 0;job from 0 to 0 pays 1;", 3);
            Edges.fault(HEAD + "lend 0 at 0 to 2;", 1, 38);
            Edges.fault(HEAD + "job from 0 pays 1;", 1, 42);
            Edges.fault("valley hours 3 pairs 2 odds 50;", 1, 7);
        });
        Edges.says("valley is the first LINE and no other", () -> {
            Edges.fault("want 0 at 0 worth 1;" + HEAD, 1, 0);
            Edges.fault("lend 0 to 2 at 0;" + HEAD, 1, 0);
            Edges.fault("job from 0 to 0 pays 1;" + HEAD, 1, 0);
            Edges.fault(HEAD + HEAD, 1, 31);
            Edges.fault(HEAD + "want 0 at 0 worth 1;" + HEAD, 1, 51);
        });
    }

    private static void boundsOfTheFirstLine() {
        Edges.says("pairs 1 .. 4", () -> Edges.bounds("valley pairs ", 1, 4, " hours 1 odds 0;", 1));
        Edges.says("hours 1 .. 12", () -> Edges.bounds("valley pairs 1 hours ", 1, 12, " odds 0;", 1));
        Edges.says("odds 0 .. 100.", () -> {
            Edges.bounds("valley pairs 1 hours 1 odds ", 0, 100, ";", 1);
            Probe.due("odds 0", Probe.of("valley pairs 1 hours 1 odds 0;").count(2), 0);
            Probe.due("odds 100", Probe.of("valley pairs 1 hours 1 odds 100;").count(2), 100);
        });
    }

    private static void personsAndHours() {
        Edges.says("PERSONS 0 .. 2 times pairs, less 1:", () -> {
            for (int pairs = 1; pairs <= 4; pairs++) {
                String head = "valley pairs " + pairs + " hours 1 odds 0;";
                Edges.bounds(head + "want ", 0, 2 * pairs - 1, " at 0 worth 1;", 2);
            }
        });
        Edges.says("0 and 1 are twins (PAIR 0), 2 and 3, and so on.", () -> {
            TwinVoice x = Probe.of("valley pairs 4 hours 1 odds 0;want 1 at 0 worth 2;want 2 at 0 worth 3;want 5 at 0 worth 4;"
                    + "want 6 at 0 worth 5;");
            for (int person = 0; person < 8; person++) {
                String lend = WIDE + "lend " + person + " to ";
                Edges.fault(lend + (person ^ 1) + " at 0;", 2, lend.length());
                Edges.fine(lend + (person + 2) % 8 + " at 0;", 2);
            }
            for (int pair = 0; pair < 4; pair++) {
                Probe.due("one of PAIR " + pair + " alone has a want", x.nearest(pair), 0);
                Probe.due("he GETS it", x.gets(2 * pair) + x.gets(2 * pair + 1), pair % 2 == 0 ? 2 + pair : 0);
            }
        });
        Edges.says("P a PERSON, H an HOUR 0 .. hours less 1.", () -> {
            for (int hours = 1; hours <= 12; hours += 11) {
                String head = "valley pairs 2 hours " + hours + " odds 0;";
                Edges.bounds(head + "want 0 at ", 0, hours - 1, " worth 1;", 2);
                Edges.bounds(head + "lend 0 to 2 at ", 0, hours - 1, ";", 2);
                Edges.bounds(head + "job from 0 to ", 0, hours - 1, " pays 1;", 2);
                Edges.fault(head + "job from " + hours + " to " + hours + " pays 1;", 2, head.length() + 9);
            }
            Edges.fine(HEAD + "lend 3 to 0 at 0;", 2);
            Edges.fault(HEAD + "lend 4 to 0 at 0;", 2, 36);
            Edges.fine(HEAD + "lend 0 to 3 at 0;", 2);
            Edges.fault(HEAD + "lend 0 to 4 at 0;", 2, 41);
            Edges.fine(HEAD + "want 0 at 0 worth 1 to 3;", 2);
            Edges.fault(HEAD + "want 0 at 0 worth 1 to 4;", 2, 54);
        });
    }

    private static void wantsLendsJobs() {
        Edges.says("want: worth 1 .. 99", () -> Edges.bounds(HEAD + "want 0 at 0 worth ", 1, 99, ";", 2));
        Edges.says("to another PERSON.", () -> {
            for (int person = 0; person < 8; person++) {
                String want = WIDE + "want " + person + " at 0 worth 1 to ";
                Edges.fault(want + person + ";", 2, want.length());
                Edges.fine(want + (person ^ 1) + ";", 2);
                Edges.fine(want + (person + 2) % 8 + ";", 2);
                Edges.fault(want + "8;", 2, want.length());
            }
        });
        Edges.says("lend: to one of another PAIR;", () -> {
            for (int person = 0; person < 8; person++) {
                String lend = WIDE + "lend " + person + " to ";
                for (int to = 0; to < 8; to++) {
                    if (to / 2 == person / 2) {
                        Edges.fault(lend + to + " at 0;", 2, lend.length());
                    } else {
                        Edges.fine(lend + to + " at 0;", 2);
                    }
                }
            }
            Edges.fault("valley pairs 1 hours 1 odds 0;lend 0 to 1 at 0;", 2, 40);
            Edges.fault("valley pairs 1 hours 1 odds 0;lend 0 to 2 at 0;", 2, 40);
        });
        Edges.says("a PAIR lends once an HOUR.", () -> {
            Edges.fault(HEAD + "lend 0 to 2 at 1;lend 0 to 2 at 1;", 2, 63);
            Edges.fault(HEAD + "lend 0 to 2 at 1;lend 1 to 3 at 1;", 2, 63);
            Edges.fault(HEAD + "lend 0 to 2 at 1;lend 2 to 0 at 1;lend 3 to 1 at 1;", 2, 80);
            Edges.fine(HEAD + "lend 0 to 2 at 1;lend 1 to 2 at 0;lend 0 to 3 at 2;lend 2 to 0 at 1;", 5);
            Edges.fault(HEAD + "lend 0 to 2 at 0;lend 0 to 2 at 1;lend 1 to 2 at 0;", 2, 80);
        });
        Edges.says("job: the last HOUR no less than the first", () -> {
            Edges.fine(HEAD + "job from 2 to 2 pays 1;", 2);
            Edges.fine(HEAD + "job from 0 to 2 pays 1;", 2);
            Edges.fault(HEAD + "job from 2 to 1 pays 1;", 2, 45);
            Edges.fault(HEAD + "job from 1 to 0 pays 1;", 2, 45);
        });
        Edges.says("pays 1 .. 999.", () -> Edges.bounds(HEAD + "job from 0 to 0 pays ", 1, 999, ";", 2));
        Edges.says("WANTS 0 .. 8, LENDS 0 .. 5, JOBS 0 .. 3 are numbered as they stand.", () -> {
            StringBuilder text = new StringBuilder("valley pairs 2 hours 12 odds 0;");
            for (int i = 0; i < 9; i++) {
                text.append("want 0 at 0 worth ").append(i + 10).append(';');
                text.append(i < 6 ? "lend 0 to 2 at " + (11 - i) + ";" : "");
                text.append(i < 4 ? "job from 0 to 0 pays " + (900 - i) + ";" : "");
            }
            TwinVoice x = Probe.of(text.toString());
            Probe.due("LINES", x.count(7), 20);
            for (int i = 0; i < 9; i++) {
                Probe.due("WANT " + i, x.want(i, 2), i + 10);
                Probe.due("LEND " + i, x.lend(i, 2), i < 6 ? 11 - i : -2);
                Probe.due("JOB " + i, x.job(i, 2), i < 4 ? 900 - i : -2);
            }
            Probe.due("WANT 9", x.want(9, 2), -2);
        });
    }

    private static void tokens() {
        Edges.says("TOKENS, blanks (32, 10) aside", () -> {
            Edges.fine("\n \n" + HEAD + " \n", 1);
            Edges.fine(" \n ", 0);
            Edges.fine("valley\n\n  pairs \n2 hours\n3 odds 50\n;", 1);
            for (char c : new char[] {0, 9, 11, 12, 13, 31, 33, 133, 160, 255}) {
                Edges.fault("valley" + c + "pairs 2 hours 3 odds 50;", 1, 6);
                Edges.fault(HEAD + c, 1, 31);
            }
        });
        Edges.says("the longest: words (a .. z), numbers (digits), the sign ; .", () -> {
            Edges.fine("valley pairs2hours3odds50;want0at0worth1whisper;", 2);
            Edges.fault("valleypairs 2 hours 3 odds 50;", 1, 0);
            Edges.fault("valley pairs 2 hours 3 oddss 50;", 1, 23);
            Edges.fault("valley pairs 2 hours 1 2 odds 50;", 1, 23);
            Edges.fault("valley pairs 2 hours 33 odds 50;", 2, 21);
            Edges.fine("valley pairs 2 hours 0000000000000000000012 odds 0;", 1);
            Edges.fault("valley pairs 2 hours 4294967297 odds 0;", 2, 21);
            Edges.fault("valley pairs 2 hours 18446744073709551617 odds 0;", 2, 21);
            Edges.fault("valley pairs 2 hours 1000000000000000000000000000001 odds 0;", 2, 21);
            for (char c : new char[] {'A', 'Z', '@', '[', '`', '{', '/', ':', '<', '-', '+', '.', 225, 250}) {
                Edges.fault(HEAD + c, 1, 31);
                Edges.fault("valley pairs " + c + "2 hours 3 odds 50;", 1, 13);
                Edges.fault("valley pairs 2" + c + " hours 3 odds 50;", 1, 14);
            }
            StringBuilder ones = new StringBuilder();
            for (int i = 0; i < 786; i++) {
                ones.append('0');
            }
            Edges.fault("valley pairs " + ones, 2, 13);
            Edges.fault("valley pairs " + ones.substring(1) + "1", 1, 799);
        });
    }

    private static void faults() {
        Edges.says("FAULTS, the first by its place (a TOKEN's first byte; the end's)", () -> {
            Edges.fault("valley pairs 9 ours 3 odds 50;", 2, 13);
            Edges.fault("valley pears 9 hours 3 odds 50;", 1, 7);
            Edges.fault("valley pairs 9", 2, 13);
            Edges.fault("valley pairs 2 hours 13 odds 101;", 2, 21);
            Edges.fault("valley", 1, 6);
            Edges.fault("valley ", 1, 7);
            Edges.fault("valley \n\n ", 1, 10);
            Edges.fault(HEAD + "want", 1, 35);
            Edges.fault(HEAD + "job from 2 to 1 pays 0 9", 2, 45);
            StringBuilder full = new StringBuilder("valley");
            while (full.length() < 800) {
                full.append(' ');
            }
            Edges.fault(full.toString(), 1, 800);
        });
        Edges.says("of one place the least:", () -> {
            Edges.fault("valley pairs 2 999 hours 3 odds 50;", 1, 15);
            Edges.fault(HEAD + "want 0 at 0 worth 1 to 1 999;", 1, 56);
            Edges.fault(nineWants() + "lend 0 want", 1, nineWants().length() + 7);
            Edges.fault(nineWants() + "job want", 1, nineWants().length() + 4);
        });
        Edges.says("1 a TOKEN that is none, or can't stand there (valley behind the first LINE, another word ahead of it).", () -> {
            Edges.fault(HEAD + "?", 1, 31);
            Edges.fault(HEAD + "sing", 1, 31);
            for (String word : new String[] {"cant", "wants", "wan", "tend", "lent", "mob", "jog", "jobs", "z", "wantz"}) {
                Edges.fault(HEAD + word + " 0 at 0 worth 1;", 1, 31);
            }
            Edges.fault(HEAD + "0", 1, 31);
            Edges.fault(HEAD + "valley", 1, 31);
            Edges.fault("want", 1, 0);
            Edges.fault("lend", 1, 0);
            Edges.fault("job", 1, 0);
            Edges.fault("pairs", 1, 0);
            Edges.fault(HEAD + "want zero", 1, 36);
            Edges.fault(HEAD + "want ;", 1, 36);
        });
        Edges.says("2 a number out of its bounds, not as said (the HOUR of a PAIR that lends then already).", () -> {
            Edges.fault(HEAD + "want 4", 2, 36);
            Edges.fault(HEAD + "want 0 at 3", 2, 41);
            Edges.fault(HEAD + "lend 4", 2, 36);
            Edges.fault(HEAD + "lend 0 to 1", 2, 41);
            Edges.fault(HEAD + "lend 0 to 2 at 0;lend 1 to 2 at 0", 2, 63);
            Edges.fault(HEAD + "lend 0 to 2 at 0;lend 1 to 2 at 3", 2, 63);
            Edges.fault(HEAD + "job from 2 to 1", 2, 45);
        });
        Edges.says("3 a 10th want, 7th lend, 5th job, at its word.", () -> {
            String nine = nineWants();
            Edges.fine(nine, 10);
            Edges.fault(nine + " want 0 at 0 worth 1;", 3, nine.length() + 1);
            Edges.fault(nine + "want", 3, nine.length());
            String six = "valley pairs 2 hours 12 odds 0;";
            for (int i = 0; i < 6; i++) {
                six += "lend 0 to 2 at " + i + ";";
            }
            Edges.fine(six, 7);
            Edges.fault(six + "lend 0 to 2 at 0;", 3, six.length());
            Edges.fine(six + "want 0 at 0 worth 1;job from 0 to 0 pays 1;", 9);
            String four = HEAD;
            for (int i = 0; i < 4; i++) {
                four += "job from 0 to 0 pays 1;";
            }
            Edges.fine(four, 5);
            Edges.fault(four + "\njob from 0 to 9 pays 0;", 3, four.length() + 1);
            Edges.fine(four + "want 0 at 0 worth 1;lend 0 to 2 at 0;", 7);
        });
    }

    private static String nineWants() {
        StringBuilder text = new StringBuilder(HEAD);
        for (int i = 0; i < 9; i++) {
            text.append("want 0 at 0 worth 1;");
        }
        return text.toString();
    }

    private static void slots() {
        Edges.says("SLOTS 0 .. 3 have rows of numbers of 1, 2, 4 or 8 bytes (WIDTH 0 .. 3), at most 60, or nothing.", () -> {
            TwinVoice x = Probe.of(HEAD);
            for (int slot = 0; slot < 4; slot++) {
                Probe.due("nothing in " + slot, x.write(slot, 0, 0), -6);
                Probe.due("SLOT " + slot, x.row(slot, slot, 60), 0);
                Probe.due("its last number", x.write(slot, 59, 1), 0);
                Probe.due("at most 60", x.write(slot, 60, 1), -7);
            }
            Probe.due("no SLOT 4", x.row(4, 0, 1), -2);
            long[] beyond = {1L << 8, 1L << 16, 1L << 32};
            for (int width = 0; width < 3; width++) {
                Probe.fill(x, 0, width, beyond[width], beyond[width]);
                Probe.due("cut to WIDTH " + width, x.lies(0), 0);
                Probe.fill(x, 0, width + 1, beyond[width], 0);
                Probe.due("whole in WIDTH " + (width + 1), x.lies(0), -2);
            }
        });
        Edges.says("-2 is asked ahead of -5, -6.", () -> {
            TwinVoice x = Probe.of(HEAD + "want 0 at 0 worth 1;want 1 at 0 worth 1;");
            x.say(0, 0);
            Probe.due("say again, late", x.say(0, 1), -2);
            Probe.due("rate to 100 when something is said", x.rate(0, 100), -2);
            Probe.due("callers from nothing, no such HOUR", x.callers(0, 3), -2);
            Probe.due("culprits from nothing, no such HOURS", x.culprits(0, 8), -2);
            Probe.due("proof from nothing, no such HOURS", x.proof(0, 8), -2);
            Probe.due("alibi from nothing, no such PERSON", x.alibi(0, 4), -2);
            Probe.due("paste from nothing to no SLOT", x.paste(0, 0, 4, 0, 0), -2);
            Probe.due("paste from no SLOT to nothing", x.paste(-1, 0, 1, 0, 0), -2);
            TwinVoice none = new TwinVoice();
            Probe.due("undo without a VALLEY", none.undo(), -2);
            Probe.due("judge nothing without a VALLEY", none.judge(0), -2);
            Probe.due("lies in nothing without a VALLEY", none.lies(0), -2);
            Probe.due("back to no IMAGE", none.back(3), -2);
        });
    }
}
