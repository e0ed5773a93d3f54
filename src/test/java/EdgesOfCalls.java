/** Edges of promises 45 to 49: who can have called, whom to ask. */
final class EdgesOfCalls {
    private static final String TWO = "valley pairs 2 hours 3 odds 50;lend 0 to 2 at 1;";
    private static final String FOUR = "valley pairs 4 hours 12 odds 50;";

    /** A call about a SLOT. */
    private interface Ask {
        int of(TwinVoice x, int slot);
    }

    private EdgesOfCalls() {
    }

    static void all() {
        callers();
        culprits();
        proof();
        alibi();
        lies();
    }

    /** No such SLOT, a number that is none such, not two each, no VALLEY. */
    private static void noneSuch(Ask ask) {
        TwinVoice x = Probe.of(TWO);
        for (int slot = 0; slot < 4; slot++) {
            Probe.fill(x, slot, slot, 2, 3);
        }
        Edges.noneBut("SLOT", 3, slot -> ask.of(x, slot));
        long[][] rows = {{3, 0}, {-1, 0}, {0, 4}, {0, -1}, {0, 0, 3, 0}, {0, 0, 0, 4}, {127, 0}, {0, 127}, {-128, -128}, {0}, {0, 0, 0}};
        for (int width = 0; width < 4; width++) {
            for (long[] row : rows) {
                Probe.fill(x, 0, width, row);
                Probe.due("a row of " + java.util.Arrays.toString(row), ask.of(x, 0), -2);
            }
        }
        long[] wide = {Long.MAX_VALUE, Long.MIN_VALUE, 1L << 32, 1L << 62, -1L << 32};
        for (long number : wide) {
            Probe.fill(x, 0, 3, number, 0);
            Probe.due("HOUR " + number, ask.of(x, 0), -2);
            Probe.fill(x, 0, 3, 0, number);
            Probe.due("PERSON " + number, ask.of(x, 0), -2);
        }
        Probe.fill(x, 0, 0, 2, 3, 0, 0);
        Probe.due("all numbers are such, -2", ask.of(x, 0) == -2 ? 1 : 0, 0);
        Edges.noValley("the call", y -> {
            y.row(0, 0, 0);
            return ask.of(y, 0);
        });
        Edges.noValley("the call, about nothing", y -> ask.of(y, 1));
    }

    private static void nothing(Ask ask) {
        TwinVoice x = Probe.of(TWO);
        Probe.fill(x, 1, 0);
        for (int slot = 0; slot < 4; slot++) {
            Probe.due("SLOT " + slot + ", -6", ask.of(x, slot) == -6 ? 1 : 0, slot == 1 ? 0 : 1);
        }
    }

    private static void callers() {
        Edges.of(45);
        Edges.says("CALL (VII): PERSONS who MAY HAVE called in an HOUR, as bits.", () -> {
            TwinVoice x = Probe.of(TWO);
            Probe.fill(x, 0, 0);
            Probe.due("an empty row", x.callers(0, 0), 15);
            Probe.due("who MAY speak then", x.callers(0, 1), 12);
            Probe.fill(x, 0, 0, 1, 2);
            Probe.due("his twin doesn't SHARE then", x.callers(0, 1), 8);
            Probe.due("other HOURS", x.callers(0, 2), 15);
            Probe.fill(x, 0, 0, 2, 2, 2, 1);
            Probe.due("nobody", x.callers(0, 2), 0);
            TwinVoice wide = Probe.of(FOUR);
            long[] row = new long[60];
            for (int i = 0; i < 60; i += 2) {
                row[i] = i / 2 % 12;
                row[i + 1] = i / 24 * 2;
            }
            Probe.fill(wide, 3, 0, row);
            Probe.due("thirty told, HOUR 5", wide.callers(3, 5), 255 & ~Probe.set(0, 1, 2, 3, 4, 5));
            Probe.due("thirty told, HOUR 11", wide.callers(3, 11), 255 & ~Probe.set(0, 1, 2, 3));
        });
        Edges.says("-2: there are none such, no VALLEY, no such SLOT, a number is none such (asked last), not two each;", () -> {
            TwinVoice x = Probe.of(TWO);
            Probe.fill(x, 0, 0);
            Edges.noneBut("HOUR", 2, hour -> x.callers(0, hour));
            noneSuch((y, slot) -> y.callers(slot, 0));
        });
        Edges.says("-6: it has nothing.", () -> nothing((y, slot) -> y.callers(slot, 2)));
    }

    private static void culprits() {
        Edges.of(46);
        Edges.says("PERSONS who MAY HAVE called in all of a set of HOURS (bits;", () -> {
            TwinVoice x = Probe.of(TWO);
            Probe.fill(x, 0, 0, 0, 0, 2, 3);
            int[] due = {15, 12, 12, 12, 3, 0, 0, 0};
            for (int hours = 0; hours < 8; hours++) {
                Probe.due("culprits of " + hours, x.culprits(0, hours), due[hours]);
            }
            TwinVoice wide = Probe.of(FOUR);
            Probe.fill(wide, 0, 0, 11, 7);
            Probe.due("all HOURS", wide.culprits(0, 4095), 63);
            Probe.due("all but the last", wide.culprits(0, 2047), 255);
        });
        Edges.says("all PERSONS by the empty one), as bits.", () -> {
            for (int pairs = 1; pairs <= 4; pairs++) {
                TwinVoice x = Probe.of("valley pairs " + pairs + " hours 1 odds 0;");
                Probe.fill(x, 0, 0, 0, 0);
                Probe.due("of " + pairs + " PAIRS", x.culprits(0, 0), (1 << 2 * pairs) - 1);
            }
        });
        Edges.says("-2, -6 likewise.", () -> {
            TwinVoice x = Probe.of(TWO);
            Probe.fill(x, 0, 0);
            Edges.noneBut("HOURS", 7, hours -> x.culprits(0, hours));
            noneSuch((y, slot) -> y.culprits(slot, 0));
            nothing((y, slot) -> y.culprits(slot, 7));
        });
    }

    private static void proof() {
        Edges.of(47);
        Edges.says("The fewest of these HOURS by which no more PERSONS are left.", () -> {
            TwinVoice x = Probe.of(TWO);
            Probe.fill(x, 0, 0, 0, 0, 2, 3);
            int[] due = {0, 1, 1, 1, 1, 2, 2, 2};
            for (int hours = 0; hours < 8; hours++) {
                Probe.due("proof of " + hours, x.proof(0, hours), due[hours]);
            }
            TwinVoice wide = Probe.of(FOUR);
            Probe.fill(wide, 0, 0);
            Probe.due("all are left", wide.proof(0, 4095), 0);
            Probe.fill(wide, 0, 0, 1, 0, 4, 2, 6, 4, 11, 7);
            Probe.due("one HOUR a PAIR", wide.proof(0, 4095), 4);
            Probe.due("without the last", wide.proof(0, 2047), 3);
            Probe.fill(wide, 0, 0, 1, 0, 1, 2, 2, 2, 2, 4, 3, 4, 3, 7, 5, 0, 6, 7, 0, 4);
            Probe.due("two HOURS of seven", wide.proof(0, 4095), 2);
            Probe.due("no one PAIR twice", wide.proof(0, 127 & ~8), 3);
        });
        Edges.says("-2, -6 likewise.", () -> {
            TwinVoice x = Probe.of(TWO);
            Probe.fill(x, 0, 0);
            Edges.noneBut("HOURS", 7, hours -> x.proof(0, hours));
            noneSuch((y, slot) -> y.proof(slot, 0));
            nothing((y, slot) -> y.proof(slot, 7));
        });
    }

    private static void alibi() {
        Edges.of(48);
        Edges.says("HOURS in which a PERSON MAY HAVE called, as bits.", () -> {
            TwinVoice x = Probe.of(TWO);
            Probe.fill(x, 0, 0, 0, 0, 2, 3, 1, 3);
            int[] due = {4, 4, 3, 1};
            for (int person = 0; person < 4; person++) {
                Probe.due("alibi of " + person, x.alibi(0, person), due[person]);
            }
            TwinVoice wide = Probe.of(FOUR);
            Probe.fill(wide, 0, 0, 11, 0);
            Probe.due("all HOURS", wide.alibi(0, 7), 4095);
            Probe.due("but the last", wide.alibi(0, 1), 2047);
        });
        Edges.says("-2: there is no such PERSON, SLOT, a number is none such (asked last), not two each;", () -> {
            TwinVoice x = Probe.of(TWO);
            Probe.fill(x, 0, 0);
            Edges.noneBut("PERSON", 3, person -> x.alibi(0, person));
            noneSuch((y, slot) -> y.alibi(slot, 3));
        });
        Edges.says("-6 likewise.", () -> nothing((y, slot) -> y.alibi(slot, 3)));
    }

    private static int lies(TwinVoice x, long... row) {
        Probe.fill(x, 2, 1, row);
        return x.lies(2);
    }

    private static void lies() {
        Edges.of(49);
        Edges.says("How many rows of it can't be:", () -> {
            TwinVoice x = Probe.of(TWO);
            Probe.due("no rows", lies(x), 0);
            Probe.due("one that can be", lies(x, 0, 0), 0);
            long[] row = new long[60];
            for (int i = 0; i < 60; i += 2) {
                row[i] = 1;
            }
            Probe.due("all thirty", lies(x, row), 30);
        });
        Edges.says("the PERSON may not speak then,", () -> {
            TwinVoice x = Probe.of(TWO);
            int[] due = {1, 1, 0, 0};
            for (int person = 0; person < 4; person++) {
                Probe.due("lent at 1, PERSON " + person, lies(x, 1, person), due[person]);
                Probe.due("home at 0, PERSON " + person, lies(x, 0, person), 0);
            }
            Probe.due("twice the same", lies(x, 1, 0, 1, 0), 2);
        });
        Edges.says("or SHARES with his twin, whom an earlier row tells for that HOUR.", () -> {
            TwinVoice x = Probe.of(TWO);
            Probe.due("the later one", lies(x, 0, 0, 0, 1), 1);
            Probe.due("the other way", lies(x, 0, 3, 0, 2), 1);
            Probe.due("himself", lies(x, 0, 0, 0, 0), 0);
            Probe.due("each later one", lies(x, 0, 0, 0, 1, 0, 0, 0, 1), 3);
            Probe.due("for another HOUR", lies(x, 0, 0, 2, 1), 0);
            Probe.due("another PAIR's", lies(x, 0, 1, 0, 2), 0);
            Probe.due("who doesn't SHARE", lies(x, 1, 2, 1, 3), 0);
            TwinVoice last = Probe.of(FOUR + "lend 0 to 6 at 11;lend 2 to 4 at 10;");
            Probe.due("of the last PAIR, who doesn't", lies(last, 11, 6, 11, 7), 0);
            Probe.due("of the last PAIR, who does", lies(last, 10, 6, 10, 7), 1);
            Probe.due("of PAIR 2, who doesn't", lies(last, 10, 5, 10, 4), 0);
            Probe.due("of PAIR 2, who does", lies(last, 11, 5, 11, 4), 1);
            Probe.due("both may not, counted once each", lies(x, 1, 0, 1, 1), 2);
        });
        Edges.says("-2: there is no such SLOT, no VALLEY, a number is none such (asked last), not two each;", () -> noneSuch(TwinVoice::lies));
        Edges.says("-6 likewise.", () -> nothing(TwinVoice::lies));
    }
}
