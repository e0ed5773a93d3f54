/** Edges of promises 31 to 36: hours split between twins, spite. */
final class EdgesOfTwins {
    private static final String TWO = "valley pairs 2 hours 3 odds 50;";

    private EdgesOfTwins() {
    }

    static void all() {
        split();
        gets();
        fair();
        calm();
        nearest();
        rests();
    }

    /** Twelve HOURS, in four of which each twin has a WANT of his worth. */
    private static String all(int first, int second) {
        StringBuilder text = new StringBuilder("valley pairs 1 hours 12 odds 0;");
        for (int hour = 0; hour < 8; hour += 2) {
            text.append("want 0 at ").append(hour).append(" worth ").append(first).append(';');
            text.append("want 1 at ").append(hour).append(" worth ").append(second).append(';');
        }
        return text.toString();
    }

    private static void split() {
        Edges.of(31);
        Edges.says("SPLIT (IV): HOURS of the first twin, as bits, by which what both GET, times each other, is most, the least set of several.", () -> {
            Probe.due("two of four HOURS, the least", Probe.of(all(5, 5)).split(0), Probe.set(0, 2));
            Probe.due("nobody has a WANT: all are as good", Probe.of(TWO).split(1), 0);
            Probe.due("one alone: all are as good", Probe.of(TWO + "want 2 at 0 worth 9;").split(1), 0);
            Probe.due("no HOUR that he doesn't want", Probe.of(TWO + "want 2 at 1 worth 1;want 3 at 2 worth 1;").split(1), Probe.set(1));
            Probe.due("the last HOUR", Probe.of("valley pairs 1 hours 12 odds 0;want 0 at 11 worth 1;want 1 at 0 worth 1;").split(0), 1 << 11);
            Probe.due("times, not together", Probe.of(TWO + "want 0 at 0 worth 9;want 0 at 1 worth 9;want 1 at 0 worth 1;").split(0),
                    Probe.set(1));
            Probe.due("one HOUR for two", Probe.of("valley pairs 1 hours 1 odds 0;want 0 at 0 worth 9;want 1 at 0 worth 1;").split(0), 0);
            TwinVoice x = Probe.of(TWO + "want 0 at 1 worth 9;want 1 at 0 worth 9;want 2 at 0 worth 1;");
            Probe.due("PAIR 0", x.split(0), Probe.set(1));
            Probe.due("PAIR 1 behind it", x.split(1), 0);
            Probe.due("PAIR 1, fair behind it", x.fair(1), 0);
            Probe.due("the VOICE is lent then", Probe.of(TWO + "want 0 at 0 worth 9;want 1 at 1 worth 1;lend 0 to 2 at 0;").split(0), 1);
        });
        Edges.says("-2: there is no such PAIR.", () -> {
            TwinVoice x = Probe.of(TWO);
            Edges.noneBut("PAIR", 1, x::split);
            Edges.noValley("split", y -> y.split(0));
        });
    }

    private static void gets() {
        Edges.of(32);
        Edges.says("What a PERSON GETS by that SPLIT.", () -> {
            TwinVoice x = Probe.of(all(5, 5));
            Probe.due("half", x.gets(0), 10);
            Probe.due("the other half", x.gets(1), 10);
            TwinVoice one = Probe.of("valley pairs 1 hours 1 odds 0;want 0 at 0 worth 9;want 1 at 0 worth 1;");
            Probe.due("the first, by the empty set", one.gets(0), 0);
            Probe.due("the second has all", one.gets(1), 1);
            TwinVoice most = Probe.of(all(99, 99));
            Probe.due("198", most.gets(0), 198);
            Probe.due("198 too", most.gets(1), 198);
            TwinVoice none = Probe.of(TWO);
            for (int person = 0; person < 4; person++) {
                Probe.due("without WANTS, " + person, none.gets(person), 0);
            }
        });
        Edges.says("-2: there is none such.", () -> {
            TwinVoice x = Probe.of(TWO);
            Edges.noneBut("PERSON", 3, x::gets);
            Edges.noValley("gets", y -> y.gets(0));
        });
    }

    private static void fair() {
        Edges.of(33);
        Edges.says("The greatest that the lesser of both GETS can be, by any SPLIT.", () -> {
            Probe.due("half of each", Probe.of(all(5, 5)).fair(0), 10);
            Probe.due("nobody has a WANT", Probe.of(TWO).fair(0), 0);
            Probe.due("one alone", Probe.of(TWO + "want 3 at 0 worth 9;").fair(1), 0);
            Probe.due("one HOUR for two", Probe.of("valley pairs 1 hours 1 odds 0;want 0 at 0 worth 9;want 1 at 0 worth 1;").fair(0), 0);
            TwinVoice x = Probe.of(TWO + "want 0 at 0 worth 4;want 1 at 0 worth 10;want 0 at 1 worth 5;want 1 at 1 worth 30;");
            Probe.due("5 and 10", x.fair(0), 5);
            Probe.due("not by the SPLIT of the most, 4 times 30", x.gets(0), 4);
        });
        Edges.says("-2: there is no such PAIR.", () -> {
            TwinVoice x = Probe.of(TWO);
            Edges.noneBut("PAIR", 1, x::fair);
            Edges.noValley("fair", y -> y.fair(0));
        });
    }

    private static void calm() {
        Edges.of(34);
        Edges.says("How many SPLITS give each half of all that he would GET alone, at least.", () -> {
            Probe.due("two of four HOURS, eight others free", Probe.of(all(5, 5)).calm(0), 6 << 8);
            Probe.due("just half is enough", Probe.of(TWO + "want 0 at 0 worth 2;want 0 at 1 worth 2;want 1 at 1 worth 1;").calm(0), 2);
            Probe.due("half of 3 is more than 1", Probe.of(TWO + "want 0 at 0 worth 1;want 0 at 1 worth 2;want 1 at 1 worth 1;").calm(0), 0);
            Probe.due("of the second one's too", Probe.of(TWO + "want 1 at 0 worth 1;want 1 at 1 worth 2;want 0 at 1 worth 1;").calm(0), 0);
            Probe.due("none", Probe.of("valley pairs 1 hours 1 odds 0;want 0 at 0 worth 9;want 1 at 0 worth 1;").calm(0), 0);
            Probe.due("all, nobody has a WANT", Probe.of(TWO).calm(1), 8);
            Probe.due("all of twelve HOURS", Probe.of("valley pairs 1 hours 12 odds 0;").calm(0), 4096);
            Probe.due("one alone must have his", Probe.of(TWO + "want 3 at 0 worth 9;").calm(1), 4);
        });
        Edges.says("-2 likewise.", () -> {
            TwinVoice x = Probe.of(TWO);
            Edges.noneBut("PAIR", 1, x::calm);
            Edges.noValley("calm", y -> y.calm(0));
        });
    }

    private static void nearest() {
        Edges.of(35);
        Edges.says("The least difference of what both GET, by any SPLIT.", () -> {
            Probe.due("none", Probe.of(all(5, 5)).nearest(0), 0);
            Probe.due("nobody has a WANT", Probe.of(TWO).nearest(0), 0);
            Probe.due("one alone leaves his HOUR", Probe.of(TWO + "want 2 at 0 worth 9;").nearest(1), 0);
            Probe.due("one HOUR: the lesser worth", Probe.of("valley pairs 1 hours 1 odds 0;want 0 at 0 worth 9;want 1 at 0 worth 4;").nearest(0), 4);
            Probe.due("and the other way", Probe.of("valley pairs 1 hours 1 odds 0;want 0 at 0 worth 4;want 1 at 0 worth 9;").nearest(0), 4);
            Probe.due("the second twin has all", Probe.of(TWO + "want 0 at 0 worth 90;want 1 at 0 worth 1;want 0 at 1 worth 90;want 1 at 1 worth 1;")
                    .nearest(0), 2);
        });
        Edges.says("-2 likewise.", () -> {
            TwinVoice x = Probe.of(TWO);
            Edges.noneBut("PAIR", 1, x::nearest);
            Edges.noValley("nearest", y -> y.nearest(0));
        });
    }

    private static void rests() {
        Edges.of(36);
        Edges.says("SPITE (V): how many pairs of choices are at REST, a cost 0 .. 99.", () -> {
            TwinVoice x = Probe.of(TWO + "want 0 at 0 worth 1;want 1 at 0 worth 1;want 1 at 2 worth 1;want 1 at 1 worth 5;want 2 at 0 worth 1;want 3 at 2 worth 99;");
            int[][] due = {{3, 2}, {3, 2}, {3, 2}};
            for (int hour = 0; hour < 3; hour++) {
                Probe.due("no cost, HOUR " + hour, x.rests(0, hour, 0), due[hour][0]);
                Probe.due("cost 1, HOUR " + hour, x.rests(0, hour, 1), due[hour][1]);
                Probe.due("cost 99, HOUR " + hour, x.rests(0, hour, 99), due[hour][1]);
            }
            Probe.due("neither of PAIR 1, no cost", x.rests(1, 1, 0), 4);
            Probe.due("neither of PAIR 1, a cost", x.rests(1, 1, 1), 3);
            Probe.due("the first twin alone wants it, no cost", x.rests(1, 0, 0), 3);
            Probe.due("the first twin alone wants it, a cost", x.rests(1, 0, 1), 2);
            Probe.due("the second one alone, no cost", x.rests(1, 2, 0), 3);
            Probe.due("the second one alone, a cost", x.rests(1, 2, 99), 2);
        });
        Edges.says("-2: there are none such.", () -> {
            TwinVoice x = Probe.of(TWO);
            Edges.noneBut("PAIR", 1, pair -> x.rests(pair, 2, 99));
            Edges.noneBut("HOUR", 2, hour -> x.rests(1, hour, 99));
            Edges.noneBut("cost", 99, cost -> x.rests(1, 2, cost));
            Edges.noValley("rests", y -> y.rests(0, 0, 0));
        });
    }
}
