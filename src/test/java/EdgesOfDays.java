/** Edges of promises 50 to 59: wants said one by one, judged, drawn, rated. */
final class EdgesOfDays {
    /** WANTS 0 and 1 CLASH at 0, WANT 1 may be late; WANT 2 is dumb, WANT 3 late behind the last HOUR. */
    private static final String FEW = "valley pairs 2 hours 3 odds 50;want 0 at 0 worth 5;want 1 at 0 worth 7 late;want 2 at 1 worth 9;"
            + "want 0 at 2 worth 3 late;lend 2 to 0 at 1;";

    private EdgesOfDays() {
    }

    static void all() {
        say();
        saidAndWorth();
        left();
        undoAndAnew();
        judge();
        drawn();
        luck();
        rate();
    }

    private static void say() {
        Edges.of(50);
        Edges.says("A WANT is said now, in its HOUR (0) or the next (1): worth of all said.", () -> {
            TwinVoice x = Probe.of(FEW);
            Probe.due("in its HOUR", x.say(0, 0), 5);
            Probe.due("in the next", x.say(1, 1), 12);
            Probe.due("in the last", x.say(3, 0), 15);
            Probe.due("count(6)", x.count(6), 3);
            StringBuilder text = new StringBuilder("valley pairs 1 hours 12 odds 50;");
            for (int i = 0; i < 9; i++) {
                text.append("want 0 at ").append(i).append(" worth 99 late;");
            }
            TwinVoice nine = Probe.of(text.toString());
            for (int i = 8; i >= 0; i--) {
                Probe.due("nine, late, " + i, nine.say(i, 1), 99 * (9 - i));
            }
            Probe.due("all nine", nine.said(), 511);
        });
        Edges.says("-2: there are none such, a late one that may not be;", () -> {
            TwinVoice x = Probe.of(FEW);
            Edges.noneBut("WANT", 3, want -> x.say(want, 0));
            Edges.noneBut("late", 1, late -> x.say(1, late));
            Edges.noneBut("late that may not be", 0, late -> x.say(0, late));
            Edges.stays("a late one that may not be", x, -2, y -> y.say(2, 1));
            Edges.noValley("say", y -> y.say(0, 0));
        });
        Edges.says("-5: it was said,", () -> {
            TwinVoice x = Probe.of(FEW);
            x.say(1, 1);
            Edges.stays("again", x, -5, y -> y.say(1, 1));
            Probe.due("again, in its HOUR", x.say(1, 0), -5);
            x.undo();
            Probe.due("taken back", x.say(1, 0), 7);
            Probe.due("again, late", x.say(1, 1), -5);
        });
        Edges.says("it can't be then,", () -> {
            TwinVoice x = Probe.of(FEW);
            Edges.stays("dumb", x, -5, y -> y.say(2, 0));
            Probe.due("behind the last HOUR", x.say(3, 1), -5);
            TwinVoice late = Probe.of("valley pairs 2 hours 2 odds 50;want 2 at 0 worth 9 late;lend 2 to 0 at 1;");
            Probe.due("dumb in the next", late.say(0, 1), -5);
            Probe.due("not in its HOUR", late.say(0, 0), 9);
        });
        Edges.says("it CLASHES with one said.", () -> {
            TwinVoice x = Probe.of(FEW);
            x.say(0, 0);
            Edges.stays("of a twin", x, -5, y -> y.say(1, 0));
            Probe.due("out of its way", x.say(1, 1), 12);
            x.undo();
            x.undo();
            x.say(1, 0);
            Probe.due("the other way", x.say(0, 0), -5);
            TwinVoice to = Probe.of("valley pairs 2 hours 1 odds 50;want 2 at 0 worth 9 to 0;want 0 at 0 worth 1 whisper;");
            to.say(0, 0);
            Probe.due("to him", to.say(1, 0), -5);
        });
    }

    private static void saidAndWorth() {
        Edges.of(51);
        Edges.says("WANTS that were said, as bits.", () -> {
            TwinVoice x = Probe.of(FEW);
            Probe.due("none", x.said(), 0);
            x.say(3, 0);
            Probe.due("the last", x.said(), Probe.set(3));
            x.say(1, 1);
            Probe.due("late ones too", x.said(), Probe.set(1, 3));
        });
        Edges.says("-2: there is no VALLEY.", () -> Edges.noValley("said", y -> y.said()));
        Edges.of(52);
        Edges.says("Worth of these.", () -> {
            TwinVoice x = Probe.of(FEW);
            Probe.due("none", x.worth(), 0);
            x.say(3, 0);
            Probe.due("one", x.worth(), 3);
            x.say(1, 1);
            Probe.due("two", x.worth(), 10);
            x.undo();
            Probe.due("one again", x.worth(), 3);
        });
        Edges.says("-2 likewise.", () -> Edges.noValley("worth", y -> y.worth()));
    }

    private static void left() {
        Edges.of(53);
        Edges.says("The greatest worth that others can add still.", () -> {
            TwinVoice x = Probe.of(FEW);
            Probe.due("nothing said: the plan's", x.left(), x.plan());
            x.say(0, 0);
            Probe.due("WANT 1 in the next HOUR, and 3", x.left(), 10);
            x.say(1, 1);
            Probe.due("WANT 3", x.left(), 3);
            x.say(3, 0);
            Probe.due("none", x.left(), 0);
            TwinVoice y = Probe.of(FEW);
            y.say(1, 0);
            Probe.due("what is said is not moved", y.left(), 3);
            Probe.due("no WANTS", Probe.of("valley pairs 1 hours 1 odds 0;").left(), 0);
        });
        Edges.says("-2 likewise.", () -> Edges.noValley("left", y -> y.left()));
    }

    private static void undoAndAnew() {
        Edges.of(54);
        Edges.says("The latest one said is taken back: how many are.", () -> {
            TwinVoice x = Probe.of(FEW);
            x.say(3, 0);
            x.say(0, 0);
            x.say(1, 1);
            Probe.due("two are", x.undo(), 2);
            Probe.due("the latest went", x.said(), Probe.set(0, 3));
            Probe.due("one is", x.undo(), 1);
            Probe.due("the first stays", x.said(), Probe.set(3));
            Probe.due("none is", x.undo(), 0);
            Probe.due("said()", x.said(), 0);
        });
        Edges.says("-2: there is no VALLEY;", () -> Edges.noValley("undo", y -> y.undo()));
        Edges.says("-5: none is.", () -> {
            TwinVoice x = Probe.of(FEW);
            Edges.stays("at first", x, -5, y -> y.undo());
            x.say(0, 0);
            x.undo();
            Probe.due("none any more", x.undo(), -5);
            x.say(0, 0);
            x.say(0, 0);
            x.undo();
            Probe.due("a refused one is none", x.undo(), -5);
        });
        Edges.of(55);
        Edges.says("All are: how many were.", () -> {
            TwinVoice x = Probe.of(FEW);
            Probe.due("none were", x.anew(), 0);
            x.say(0, 0);
            x.say(1, 1);
            x.say(3, 0);
            Probe.due("three were", x.anew(), 3);
            Probe.due("none are", x.said(), 0);
            Probe.due("none were then", x.anew(), 0);
            Probe.due("undo()", x.undo(), -5);
            Probe.due("the day starts again", x.say(1, 0), 7);
        });
        Edges.says("-2 likewise.", () -> Edges.noValley("anew", y -> y.anew()));
    }

    private static int judge(TwinVoice x, long... row) {
        Probe.fill(x, 3, 2, row);
        return x.judge(3);
    }

    private static void judge() {
        Edges.of(56);
        Edges.says("JUDGE: a SLOT's row, two numbers each: a WANT, late (0, 1): one said behind the other from the start of the day on:", () -> {
            TwinVoice x = Probe.of(FEW);
            Probe.due("in their HOURS and the next", judge(x, 0, 0, 1, 1, 3, 0), 3);
            x.say(1, 0);
            Probe.due("from the start of the day on", judge(x, 0, 0), 1);
            Probe.due("what was said is no matter", judge(x, 1, 0), 1);
            Probe.due("nothing is said by it", x.said(), Probe.set(1));
        });
        Edges.says("how many ahead of the first that can't be (said twice, as say()).", () -> {
            TwinVoice x = Probe.of(FEW);
            Probe.due("an empty row", judge(x), 0);
            Probe.due("the first can't be", judge(x, 2, 0, 0, 0), 0);
            Probe.due("said twice", judge(x, 0, 0, 3, 0, 0, 0), 2);
            Probe.due("said twice, late", judge(x, 1, 0, 1, 1), 1);
            Probe.due("a CLASH", judge(x, 0, 0, 1, 0, 3, 0), 1);
            Probe.due("behind the last HOUR", judge(x, 0, 0, 3, 1), 1);
            long[] row = new long[60];
            Probe.due("thirty", judge(x, row), 1);
            Probe.due("all can be", judge(x, 3, 0), 1);
        });
        Edges.says("-2: there is no such SLOT, no VALLEY, a number is none such (late, though it may not be; asked last), not two each;", () -> {
            TwinVoice x = Probe.of(FEW);
            for (int slot = 0; slot < 4; slot++) {
                Probe.fill(x, slot, slot, 1, 1);
            }
            Edges.noneBut("SLOT", 3, x::judge);
            long[][] rows = {{4, 0}, {-1, 0}, {1, 2}, {1, -1}, {0, 1}, {2, 1}, {0, 0, 0, 0, 4, 0}, {2, 0, 0, 1}, {0}, {0, 0, 1}, {127, 0}, {1, 127}};
            for (long[] row : rows) {
                Probe.due("a row of " + java.util.Arrays.toString(row), judge(x, row), -2);
            }
            Probe.fill(x, 0, 3, 1L << 32, 0);
            Probe.due("WANT 4294967296", x.judge(0), -2);
            Probe.fill(x, 0, 3, 1, (1L << 32) + 1);
            Probe.due("late 4294967297", x.judge(0), -2);
            Edges.noValley("judge", y -> {
                y.row(0, 0, 0);
                return y.judge(0);
            });
            Edges.noValley("judge nothing", y -> y.judge(1));
        });
        Edges.says("-6: it has nothing.", () -> {
            TwinVoice x = Probe.of(FEW);
            for (int slot = 0; slot < 4; slot++) {
                Probe.due("SLOT " + slot, x.judge(slot), -6);
            }
            x.row(2, 0, 0);
            Probe.due("no numbers is not nothing", x.judge(2), 0);
        });
    }

    private static void drawn() {
        String all = FEW.replace("odds 50", "odds 100");
        Edges.of(57);
        Edges.says("DAY drawn (VIII) from a seed (0 .. 2,000,000,000), what 0: WANTS that are said, as bits,", () -> {
            TwinVoice x = Probe.of(all);
            Probe.due("seed 0", x.drawn(0, 0), Probe.set(0, 3));
            Probe.due("the last seed", x.drawn(2000000000, 0), Probe.set(0, 3));
            TwinVoice none = Probe.of(FEW.replace("odds 50", "odds 0"));
            Probe.due("odds 0", none.drawn(0, 0), 0);
            Probe.due("no WANTS", Probe.of("valley pairs 1 hours 1 odds 100;").drawn(5, 0), 0);
        });
        Edges.says("1: their worth,", () -> {
            TwinVoice x = Probe.of(all);
            Probe.due("5 and 3", x.drawn(0, 1), 8);
            x.rate(0, 99);
            Probe.due("99 and 3", x.drawn(0, 1), 102);
            Probe.due("none", Probe.of(FEW.replace("odds 50", "odds 0")).drawn(0, 1), 0);
        });
        Edges.says("2: those tried and not said, as bits.", () -> {
            TwinVoice x = Probe.of(all);
            Probe.due("a CLASH, a dumb one", x.drawn(0, 2), Probe.set(1, 2));
            Probe.due("none tried", Probe.of(FEW.replace("odds 50", "odds 0")).drawn(0, 2), 0);
            TwinVoice half = Probe.of("valley pairs 2 hours 1 odds 50;want 0 at 0 worth 1;want 1 at 0 worth 1;lend 0 to 2 at 0;");
            for (int seed = 0; seed < 40; seed++) {
                int tried = (EdgesOfTerms.draw(seed, 0) < 50 ? 1 : 0) + (EdgesOfTerms.draw(seed, 1) < 50 ? 2 : 0);
                Probe.due("both dumb, seed " + seed, half.drawn(seed, 2), tried);
            }
        });
        Edges.says("-2: there are none such, no VALLEY.", () -> {
            TwinVoice x = Probe.of(FEW);
            for (int seed : new int[] {-1, 2000000001, Integer.MIN_VALUE, Integer.MAX_VALUE}) {
                Probe.due("seed " + seed, x.drawn(seed, 0), -2);
            }
            Edges.noneBut("what", 2, what -> x.drawn(2000000000, what));
            Edges.noValley("drawn", y -> y.drawn(0, 0));
        });
    }

    private static void luck() {
        Edges.of(58);
        Edges.says("Of n (1 .. 20) such from seeds, the seed and 1, .., on how many a WANT is said.", () -> {
            TwinVoice x = Probe.of(FEW);
            for (int want = 0; want < 4; want++) {
                int lucky = 0;
                for (int n = 1; n <= 20; n++) {
                    lucky += x.drawn(99 + n, 0) >> want & 1;
                    Probe.due("luck(100, " + n + ", " + want + ")", x.luck(100, n, want), lucky);
                }
            }
            TwinVoice all = Probe.of(FEW.replace("odds 50", "odds 100"));
            Probe.due("always", all.luck(0, 20, 0), 20);
            Probe.due("never, it CLASHES", all.luck(0, 20, 1), 0);
            Probe.due("never, dumb", all.luck(0, 20, 2), 0);
            Probe.due("the last seed", all.luck(2000000000, 1, 3), 1);
            Probe.due("and those behind it", all.luck(2000000000, 20, 3), 20);
        });
        Edges.says("-2: there are none such.", () -> {
            TwinVoice x = Probe.of(FEW);
            for (int seed : new int[] {-1, 2000000001, Integer.MIN_VALUE, Integer.MAX_VALUE}) {
                Probe.due("seed " + seed, x.luck(seed, 1, 0), -2);
            }
            for (int n : new int[] {0, -1, 21, Integer.MIN_VALUE, Integer.MAX_VALUE}) {
                Probe.due("n " + n, x.luck(0, n, 0), -2);
            }
            Edges.noneBut("WANT", 3, want -> x.luck(0, 20, want));
            Edges.noValley("luck", y -> y.luck(0, 1, 0));
        });
    }

    private static void rate() {
        Edges.of(59);
        Edges.says("The worth of a WANT is n (1 .. 99) from now on: what it was.", () -> {
            TwinVoice x = Probe.of(FEW);
            Probe.due("plan() at first", x.plan(), 15);
            Probe.due("99", x.rate(1, 99), 7);
            Probe.due("1", x.rate(1, 1), 99);
            Probe.due("the same", x.rate(1, 1), 1);
            Probe.due("want(1, 2)", x.want(1, 2), 1);
            Probe.due("plan()", x.plan(), 9);
            Probe.due("ways()", x.ways(), 1);
            Probe.due("without(1)", x.without(1), 8);
            Probe.due("gets(1)", x.gets(1), 1);
            Probe.due("say(1, 0)", x.say(1, 0), 1);
        });
        Edges.says("-2: there are none such;", () -> {
            TwinVoice x = Probe.of(FEW);
            Edges.noneBut("WANT", 3, want -> x.rate(want, 50));
            for (int n : new int[] {0, -1, 100, Integer.MIN_VALUE, Integer.MAX_VALUE}) {
                Probe.due("n " + n, x.rate(0, n), -2);
            }
            Edges.stays("n 100", x, -2, y -> y.rate(0, 100));
            Edges.noValley("rate", y -> y.rate(0, 1));
        });
        Edges.says("-5: something is said.", () -> {
            TwinVoice x = Probe.of(FEW);
            x.say(3, 0);
            Edges.stays("another WANT", x, -5, y -> y.rate(0, 50));
            Edges.stays("the one said", x, -5, y -> y.rate(3, 50));
            x.undo();
            Probe.due("taken back", x.rate(0, 50), 5);
            x.say(3, 0);
            x.anew();
            Probe.due("all are", x.rate(0, 51), 50);
        });
    }
}
