/** Promises 9 to 18 and 37 to 40: voices, rings, who is dumb, what can be said and clashes. */
public final class VoiceTest {
    public static void main(String[] args) {
        voices();
        severalRings();
        noRings();
        muteHours();
        canBeSaid();
        clashesOfTwins();
        clashesOfOnesAddressed();
        clashesOfLateOnes();
        personsHours();
        Probe.close("VoiceTest");
    }

    private static void voices() {
        TwinVoice x = Probe.of("valley pairs 3 hours 3 odds 0;lend 0 to 2 at 1;lend 3 to 5 at 1;lend 4 to 1 at 1;"
                + "lend 2 to 0 at 2;lend 5 to 0 at 2;");
        Probe.due("voice(0, 0)", x.voice(0, 0), -1);
        Probe.due("voice(0, 1)", x.voice(0, 1), 2);
        Probe.due("voice(1, 1)", x.voice(1, 1), 5);
        Probe.due("voice(2, 1)", x.voice(2, 1), 1);
        Probe.due("voice(1, 2)", x.voice(1, 2), 0);
        Probe.due("voice(2, 2)", x.voice(2, 2), 0);
        Probe.due("voice(3, 0)", x.voice(3, 0), -2);
        Probe.due("voice(-1, 0)", x.voice(-1, 0), -2);
        Probe.due("voice(0, 3)", x.voice(0, 3), -2);
        Probe.due("voice(0, -1)", x.voice(0, -1), -2);
        Probe.due("holds(0, 0)", x.holds(0, 0), 0);
        Probe.due("holds(2, 1)", x.holds(2, 1), 1);
        Probe.due("holds(0, 2)", x.holds(0, 2), 2);
        Probe.due("holds(5, 2)", x.holds(5, 2), 0);
        Probe.due("holds(6, 0)", x.holds(6, 0), -2);
        Probe.due("holds(-1, 0)", x.holds(-1, 0), -2);
        Probe.due("holds(0, 3)", x.holds(0, 3), -2);
        Probe.due("holds(0, -1)", x.holds(0, -1), -2);
        Probe.due("may(0)", x.may(0), 63);
        Probe.due("may(1)", x.may(1), Probe.set(2, 5, 1));
        Probe.due("may(2)", x.may(2), Probe.set(0, 1));
        Probe.due("may(3)", x.may(3), -2);
        Probe.due("may(-1)", x.may(-1), -2);
        Probe.due("dumb(0)", x.dumb(0), 0);
        Probe.due("dumb(1)", x.dumb(1), Probe.set(0, 3, 4));
        Probe.due("dumb(2)", x.dumb(2), Probe.set(2, 3, 4, 5));
        Probe.due("dumb(3)", x.dumb(3), -2);
        Probe.due("dumb(-1)", x.dumb(-1), -2);
        Probe.due("rings(1)", x.rings(1), 1);
        Probe.due("ring(1)", x.ring(1), 7);
        Probe.due("mute()", x.mute(), 2);
    }

    private static void severalRings() {
        TwinVoice x = Probe.of("valley pairs 4 hours 2 odds 0;lend 0 to 6 at 1;lend 2 to 5 at 1;lend 4 to 3 at 1;"
                + "lend 7 to 1 at 1;");
        Probe.due("rings(1)", x.rings(1), 2);
        Probe.due("ring(1)", x.ring(1), 15);
        Probe.due("rings(0)", x.rings(0), 0);
        Probe.due("ring(0)", x.ring(0), 0);
        Probe.due("rings(2)", x.rings(2), -2);
        Probe.due("ring(2)", x.ring(2), -2);
        Probe.due("rings(-1)", x.rings(-1), -2);
        Probe.due("ring(-1)", x.ring(-1), -2);
        TwinVoice y = Probe.of("valley pairs 4 hours 1 odds 0;lend 0 to 2 at 0;lend 2 to 4 at 0;lend 4 to 6 at 0;"
                + "lend 6 to 0 at 0;");
        Probe.due("rings of four", y.rings(0), 1);
        Probe.due("ring of four", y.ring(0), 15);
    }

    private static void noRings() {
        TwinVoice x = Probe.of("valley pairs 4 hours 2 odds 0;lend 0 to 2 at 0;lend 2 to 4 at 0;lend 4 to 2 at 0;"
                + "lend 0 to 2 at 1;lend 2 to 4 at 1;");
        Probe.due("rings with a tail", x.rings(0), 1);
        Probe.due("ring with a tail", x.ring(0), Probe.set(1, 2));
        Probe.due("rings of a chain", x.rings(1), 0);
        Probe.due("ring of a chain", x.ring(1), 0);
    }

    private static void muteHours() {
        Probe.due("none dumb", Probe.of("valley pairs 4 hours 3 odds 0;").mute(), -1);
        Probe.due("first of several", Probe.of("valley pairs 2 hours 4 odds 0;lend 0 to 2 at 1;lend 2 to 0 at 3;").mute(), 1);
        Probe.due("most", Probe.of("valley pairs 3 hours 4 odds 0;lend 0 to 2 at 0;lend 0 to 2 at 3;lend 4 to 2 at 3;").mute(), 3);
        Probe.due("all hold one", Probe.of("valley pairs 2 hours 1 odds 0;lend 0 to 2 at 0;").dumb(0), 3);
        TwinVoice x = Probe.of("valley pairs 2 hours 1 odds 0;");
        x.valley();
        Probe.due("no valley", x.mute(), -2);
    }

    private static void canBeSaid() {
        TwinVoice x = Probe.of("valley pairs 2 hours 3 odds 0;lend 0 to 2 at 1;"
                + "want 0 at 0 worth 1 late;want 0 at 1 worth 1 late;want 1 at 1 worth 1;want 0 at 2 worth 1 late;"
                + "want 2 at 1 worth 1 late;want 1 at 0 worth 1;");
        int[] due = {1, 2, 0, 1, 3, 1, -2};
        for (int want = 0; want < due.length; want++) {
            Probe.due("can(" + want + ")", x.can(want), due[want]);
        }
        Probe.due("can(-1)", x.can(-1), -2);
    }

    /** Pair 0 shares at hour 0; at hour 1 person 0 holds pair 1's voice; at hour 2 pair 0's is lent away. */
    private static void clashesOfTwins() {
        TwinVoice x = Probe.of("valley pairs 2 hours 3 odds 0;lend 2 to 0 at 1;lend 0 to 2 at 2;"
                + "want 0 at 0 worth 1;want 1 at 0 worth 1;want 1 at 0 worth 1 whisper;want 0 at 0 worth 1 whisper;"
                + "want 0 at 1 worth 1;want 1 at 1 worth 1;want 0 at 2 worth 1;want 1 at 2 worth 1;want 2 at 0 worth 1;");
        Probe.due("both aloud", x.clash(0, 0, 1, 0), 1);
        Probe.due("one whispers", x.clash(0, 0, 2, 0), 1);
        Probe.due("the other whispers", x.clash(3, 0, 1, 0), 1);
        Probe.due("both whisper", x.clash(2, 0, 3, 0), 0);
        Probe.due("one person whispers twice", x.clash(0, 0, 3, 0), 1);
        Probe.due("one holds a lent one", x.clash(4, 0, 5, 0), 0);
        Probe.due("dumb twins share", x.clash(6, 0, 7, 0), 1);
        Probe.due("other hours", x.clash(0, 0, 5, 0), 0);
        Probe.due("other pairs", x.clash(0, 0, 8, 0), 0);
        Probe.due("clashes(0)", x.clashes(0), Probe.set(1, 2, 3));
        Probe.due("clashes(2)", x.clashes(2), Probe.set(0, 1));
        Probe.due("clashes(3)", x.clashes(3), Probe.set(0, 1));
        Probe.due("clashes(4)", x.clashes(4), 0);
        Probe.due("clashes(7)", x.clashes(7), Probe.set(6));
        Probe.due("clashes(8)", x.clashes(8), 0);
        Probe.due("clashes(9)", x.clashes(9), -2);
        Probe.due("clashes(-1)", x.clashes(-1), -2);
        Probe.due("one twice", x.clash(0, 0, 0, 0), -2);
        Probe.due("none such", x.clash(9, 0, 0, 0), -2);
        Probe.due("none such behind", x.clash(0, 0, 9, 0), -2);
        Probe.due("below", x.clash(-1, 0, 0, 0), -2);
        Probe.due("below behind", x.clash(0, 0, -1, 0), -2);
        Probe.due("late that may not be", x.clash(0, 1, 1, 0), -2);
        Probe.due("late that may not be behind", x.clash(0, 0, 1, 1), -2);
        Probe.due("late 2", x.clash(0, 2, 1, 0), -2);
        Probe.due("late -1", x.clash(0, 0, 1, -1), -2);
    }

    private static void clashesOfOnesAddressed() {
        TwinVoice x = Probe.of("valley pairs 2 hours 2 odds 0;want 0 at 0 worth 1 whisper to 2;want 2 at 0 worth 1;"
                + "want 3 at 0 worth 1 to 0;want 2 at 1 worth 1;want 1 at 0 worth 1 whisper to 0;");
        Probe.due("to the other's person", x.clash(0, 0, 1, 0), 1);
        Probe.due("the other way", x.clash(1, 0, 0, 0), 1);
        Probe.due("by the other one", x.clash(0, 0, 2, 0), 1);
        Probe.due("in another hour", x.clash(0, 0, 3, 0), 0);
        Probe.due("whispers to the twin", x.clash(0, 0, 4, 0), 1);
        Probe.due("to none of them", x.clash(1, 0, 4, 0), 0);
        Probe.due("clashes(0)", x.clashes(0), Probe.set(1, 2, 4));
    }

    private static void clashesOfLateOnes() {
        TwinVoice x = Probe.of("valley pairs 1 hours 2 odds 0;want 0 at 0 worth 1 late;want 1 at 1 worth 1 late;"
                + "want 0 at 1 worth 1;want 0 at 1 worth 1 late;");
        Probe.due("both in their hours", x.clash(0, 0, 1, 0), 0);
        Probe.due("late into the other's", x.clash(0, 1, 1, 0), 1);
        Probe.due("the other way", x.clash(1, 0, 0, 1), 1);
        Probe.due("no such hour", x.clash(0, 1, 1, 1), 0);
        Probe.due("no such hour for both", x.clash(3, 1, 1, 1), 0);
        Probe.due("clashes() in their hours alone", x.clashes(0), 0);
        Probe.due("clashes(1)", x.clashes(1), Probe.set(2, 3));
    }

    private static void personsHours() {
        TwinVoice x = Probe.of("valley pairs 2 hours 6 odds 0;want 0 at 1 worth 1 late;want 0 at 4 worth 1 to 3;"
                + "want 1 at 2 worth 1 to 3;want 2 at 0 worth 1 to 0;want 0 at 1 worth 2;lend 0 to 2 at 3;lend 2 to 1 at 1;");
        Probe.due("hours(0)", x.hours(0), Probe.set(1, 4));
        Probe.due("hours(1)", x.hours(1), Probe.set(2));
        Probe.due("hours(3)", x.hours(3), 0);
        Probe.due("hours(4)", x.hours(4), -2);
        Probe.due("hours(-1)", x.hours(-1), -2);
        Probe.due("idle(0)", x.idle(0), Probe.set(0, 5));
        Probe.due("idle(1)", x.idle(1), Probe.set(2, 3, 4, 5));
        Probe.due("idle(2)", x.idle(2), -2);
        Probe.due("idle(-1)", x.idle(-1), -2);
        Probe.due("run(0)", x.run(0), 3);
        Probe.due("run(1)", x.run(1), 3);
        Probe.due("run(2)", x.run(2), 4);
        Probe.due("run(3)", x.run(3), 4);
        Probe.due("run(4)", x.run(4), -2);
        Probe.due("run(-1)", x.run(-1), -2);
        Probe.due("asked(3)", x.asked(3), Probe.set(1, 2));
        Probe.due("asked(0)", x.asked(0), Probe.set(3));
        Probe.due("asked(1)", x.asked(1), 0);
        Probe.due("asked(4)", x.asked(4), -2);
        Probe.due("asked(-1)", x.asked(-1), -2);
        TwinVoice y = Probe.of("valley pairs 2 hours 1 odds 0;lend 0 to 2 at 0;");
        Probe.due("run of nobody", y.run(0), 0);
        Probe.due("run of a holder", y.run(2), 1);
    }
}
