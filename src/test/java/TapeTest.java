/** Promises 1 to 8: a new object, the tape, the valley's text, its faults and rows. */
public final class TapeTest {
    private static final String HEAD = "valley pairs 2 hours 3 odds 50;";

    public static void main(String[] args) {
        newObject();
        feedAndEnd();
        bytesHighestFirst();
        valleyTakesTheTape();
        faultsLeaveAllAsItWas();
        faultsOfTheFirstLine();
        faultsOfWants();
        faultsOfLends();
        faultsOfJobs();
        faultsOfTokens();
        faultsOfTooMany();
        cutTokens();
        rowsAsTold();
        Probe.close("TapeTest");
    }

    private static void newObject() {
        TwinVoice x = new TwinVoice();
        for (int what = 0; what <= 9; what++) {
            Probe.due("new: count(" + what + ")", x.count(what), 0);
        }
        Probe.due("new: plan()", x.plan(), -2);
        Probe.due("new: voice(0, 0)", x.voice(0, 0), -2);
        Probe.due("new: fault(0)", x.fault(0), 0);
        Probe.due("new: fault(1)", x.fault(1), -1);
        Probe.due("new: fault(2)", x.fault(2), -1);
        Probe.due("new: fault(-1)", x.fault(-1), -1);
        Probe.due("NONE", TwinVoice.NONE, -1);
    }

    private static void feedAndEnd() {
        TwinVoice x = new TwinVoice();
        for (int i = 1; i <= 40; i++) {
            Probe.due("feed " + i, x.feed(0, 0, 0, 0, 0), 20 * i);
        }
        Probe.due("feed of a full tape", x.feed(1, 1, 1, 1, 1), -1);
        Probe.due("bytes", x.count(8), 800);
        Probe.due("end(801)", x.end(801), -1);
        Probe.due("end(-1)", x.end(-1), -1);
        Probe.due("end(least)", x.end(Integer.MIN_VALUE), -1);
        Probe.due("bytes still", x.count(8), 800);
        Probe.due("end(800)", x.end(800), 800);
        Probe.due("end(781)", x.end(781), 781);
        Probe.due("feed beyond 800", x.feed(0, 0, 0, 0, 0), -1);
        Probe.due("none came", x.count(8), 781);
        Probe.due("end(780)", x.end(780), 780);
        Probe.due("feed up to 800", x.feed(0, 0, 0, 0, 0), 800);
        Probe.due("end(3)", x.end(3), 3);
        Probe.due("end(4)", x.end(4), -1);
        Probe.due("feed behind 3", x.feed(0, 0, 0, 0, 0), 23);
        Probe.due("end(0)", x.end(0), 0);
        Probe.due("no bytes", x.count(8), 0);
    }

    private static void bytesHighestFirst() {
        TwinVoice x = new TwinVoice();
        x.feed(0x76616c6c, 0x65792070, 0x61697273, 0x20312068, 0x6f757273);
        x.feed(0x2032206f, 0x64647320, 0x333b2020, 0x20202020, 0x20202020);
        Probe.due("valley() of five numbers each", x.valley(), 1);
        Probe.due("pairs", x.count(0), 1);
        Probe.due("hours", x.count(1), 2);
        Probe.due("odds", x.count(2), 3);
    }

    private static void valleyTakesTheTape() {
        TwinVoice x = new TwinVoice();
        Probe.due("lines", Probe.read(x, HEAD + "want 0 at 0 worth 5;lend 0 to 2 at 1;"), 3);
        Probe.due("tape empty then", x.count(8), 0);
        Probe.due("count(7)", x.count(7), 3);
        Probe.due("fault(0)", x.fault(0), 0);
        Probe.due("fault(1)", x.fault(1), -1);
        x.say(0, 0);
        Probe.due("in place of another", Probe.read(x, "valley pairs 1 hours 1 odds 7; want 1 at 0 worth 9;"), 2);
        Probe.due("nothing said", x.said(), 0);
        Probe.due("lends are gone", x.count(4), 0);
        Probe.due("its want", x.want(0, 0), 1);
        Probe.due("blanks alone", Probe.read(x, " \n  \n"), 0);
        Probe.due("there is none then", x.said(), -2);
        Probe.due("no lines", x.count(7), 0);
        Probe.due("no wants", x.want(0, 0), -2);
        for (int what = 0; what <= 9; what++) {
            Probe.due("blanks alone, count(" + what + ")", x.count(what), 0);
        }
        Probe.due("no pair", x.voice(0, 0), -2);
        Probe.due("no odds", x.drawn(0, 0), -2);
        Probe.due("an empty tape", x.valley(), 0);
    }

    private static void faultsLeaveAllAsItWas() {
        TwinVoice x = Probe.of(HEAD + "want 0 at 0 worth 5;");
        x.say(0, 0);
        Probe.due("fault", Probe.read(x, "valley pairs 1 hours 1 odds 0; want 1 at 0;"), -4);
        Probe.due("fault(0)", x.fault(0), 1);
        Probe.due("fault(1)", x.fault(1), 42);
        Probe.due("pairs stay", x.count(0), 2);
        Probe.due("hours stay", x.count(1), 3);
        Probe.due("odds stay", x.count(2), 50);
        Probe.due("lines stay", x.count(7), 2);
        Probe.due("want stays", x.want(0, 2), 5);
        Probe.due("said stays", x.said(), 1);
        Probe.due("tape stays", x.count(8), 43);
        x.end(31);
        Probe.due("its first line alone", x.valley(), 1);
        Probe.due("no fault any more", x.fault(0), 0);
        Probe.due("no place any more", x.fault(1), -1);
    }

    private static void fault(String text, int code, int place) {
        TwinVoice x = new TwinVoice();
        Probe.due("valley() of " + text, Probe.read(x, text), -4);
        Probe.due("fault(0) of " + text, x.fault(0), code);
        Probe.due("fault(1) of " + text, x.fault(1), place);
    }

    private static void fine(String text, int lines) {
        TwinVoice x = new TwinVoice();
        Probe.due("valley() of " + text, Probe.read(x, text), lines);
        Probe.due("fault(0) of " + text, x.fault(0), 0);
    }

    private static void faultsOfTheFirstLine() {
        fine("valley pairs 1 hours 1 odds 0;", 1);
        fine("valley pairs 4 hours 12 odds 100;", 1);
        fault("valley pairs 0 hours 1 odds 0;", 2, 13);
        fault("valley pairs 5 hours 1 odds 0;", 2, 13);
        fault("valley pairs 1 hours 0 odds 0;", 2, 21);
        fault("valley pairs 1 hours 13 odds 0;", 2, 21);
        fault("valley pairs 1 hours 1 odds 101;", 2, 28);
        fault("want 0 at 0 worth 1;", 1, 0);
        fault("  ;", 1, 2);
        fault("valley", 1, 6);
        fault("valley  \n", 1, 9);
        fault("valley pairs 1 hours 1 odds 0", 1, 29);
        fault("valley pairs 1 hours 1 odds 0  ", 1, 31);
        fault("valley hours 1 pairs 1 odds 0;", 1, 7);
        fault("valley pairs one hours 1 odds 0;", 1, 13);
        fault("valley pairs 1 hours 1 odds;", 1, 27);
        fault("valley pairs 1 hours 1 odds 0; valley pairs 1 hours 1 odds 0;", 1, 31);
        fault("valley pairs 1 hours 1 odds 0 3;", 1, 30);
        fault("valley pairs 1 hours 1 odds 0;;", 1, 30);
        fault("valleys pairs 1 hours 1 odds 0;", 1, 0);
        fault("7", 1, 0);
    }

    private static void faultsOfWants() {
        fine(HEAD + "want 3 at 2 worth 99 whisper late to 2;", 2);
        fine(HEAD + "want 0 at 0 worth 1 late;want 0 at 0 worth 1 to 1;want 0 at 0 worth 1 whisper;", 4);
        fault(HEAD + "want 4 at 0 worth 1;", 2, 36);
        fault(HEAD + "want 0 at 3 worth 1;", 2, 41);
        fault(HEAD + "want 0 at 0 worth 0;", 2, 49);
        fault(HEAD + "want 0 at 0 worth 100;", 2, 49);
        fault(HEAD + "want 0 at 0 worth 5 to 0;", 2, 54);
        fault(HEAD + "want 0 at 0 worth 5 to 4;", 2, 54);
        fault(HEAD + "want 0 at 0 worth 5 late whisper;", 1, 56);
        fault(HEAD + "want 0 at 0 worth 5 to 1 late;", 1, 56);
        fault(HEAD + "want 0 at 0 worth 5 late late;", 1, 56);
        fault(HEAD + "want 0 at 0 worth 5 to;", 1, 53);
        fault(HEAD + "want 0 at 0;", 1, 42);
        fault(HEAD + "want at 0 worth 5;", 1, 36);
        fault(HEAD + "want 0 at 0 worth 5", 1, 50);
    }

    private static void faultsOfLends() {
        fine(HEAD + "lend 0 to 2 at 0;lend 1 to 3 at 1;lend 2 to 1 at 0;", 4);
        fault(HEAD + "lend 4 to 2 at 0;", 2, 36);
        fault(HEAD + "lend 0 to 4 at 0;", 2, 41);
        fault(HEAD + "lend 0 to 0 at 0;", 2, 41);
        fault(HEAD + "lend 0 to 1 at 0;", 2, 41);
        fault(HEAD + "lend 3 to 2 at 0;", 2, 41);
        fault(HEAD + "lend 0 to 2 at 3;", 2, 46);
        fault(HEAD + "lend 0 to 2 at 0;lend 1 to 3 at 0;", 2, 63);
        fault(HEAD + "lend 0 to 2;", 1, 42);
        fault(HEAD + "lend 0 at 2 to 0;", 1, 38);
        fault(HEAD + "lend 0 to 2 at 0 late;", 1, 48);
    }

    private static void faultsOfJobs() {
        fine(HEAD + "job from 0 to 2 pays 999;job from 1 to 1 pays 1;", 3);
        fault(HEAD + "job from 3 to 3 pays 1;", 2, 40);
        fault(HEAD + "job from 1 to 0 pays 1;", 2, 45);
        fault(HEAD + "job from 1 to 3 pays 1;", 2, 45);
        fault(HEAD + "job from 1 to 2 pays 0;", 2, 52);
        fault(HEAD + "job from 1 to 2 pays 1000;", 2, 52);
        fault(HEAD + "job 1 to 2 pays 1;", 1, 35);
        fault(HEAD + "job from 1 pays 2;", 1, 42);
        fault(HEAD + "job from 1 to 2;", 1, 46);
    }

    private static void faultsOfTokens() {
        fine("valley\npairs 01\nhours\n0002 odds 00000000000000000000000000050;\n\n", 1);
        fine("valley pairs1hours1odds0;want0at0worth1;", 2);
        fault(HEAD + "sing 0;", 1, 31);
        fault(HEAD + "want -1 at 0 worth 1;", 1, 36);
        fault(HEAD + "want 0 at 0 worth 1.5;", 1, 50);
        fault(HEAD + "Want 0 at 0 worth 1;", 1, 31);
        fault(HEAD + "\twant 0 at 0 worth 1;", 1, 31);
        fault(HEAD + "want\r0 at 0 worth 1;", 1, 35);
        fault(HEAD + (char) 233, 1, 31);
        fault(HEAD + (char) 0, 1, 31);
        fault(HEAD + "want 0 at 0 worth 4294967297;", 2, 49);
        fault(HEAD + "want 0 at 0 worth 18446744073709551617;", 2, 49);
        fault(HEAD + "wantx 0 at 0 worth 1;", 1, 31);
        fault(HEAD + "wantz 0 at 0 worth 1;", 1, 31);
        fault(HEAD + "wanta 0 at 0 worth 1;", 1, 31);
        fault(HEAD + "cant 0 at 0 worth 1;", 1, 31);
        fault(HEAD + "wan 0 at 0 worth 1;", 1, 31);
        fault(HEAD + "want 0 at 0 worth 1whispers;", 1, 50);
        fault(HEAD + "want 9 at 9 worth 999", 2, 36);
        fault(HEAD + "`", 1, 31);
        fault(HEAD + "{", 1, 31);
        fault(HEAD + "want / at 0", 1, 36);
        fault(HEAD + "want : at 0", 1, 36);
    }

    private static void faultsOfTooMany() {
        StringBuilder t = new StringBuilder("valley pairs 2 hours 6 odds 0;");
        for (int i = 0; i < 9; i++) {
            t.append("want 0 at 0 worth 1;");
        }
        for (int i = 0; i < 6; i++) {
            t.append("lend 0 to 2 at ").append(i).append(';');
        }
        for (int i = 0; i < 4; i++) {
            t.append("job from 0 to 0 pays 1;");
        }
        String full = t.toString();
        fine(full, 20);
        fault(full + "want", 3, full.length());
        fault(full + " lend 9", 3, full.length() + 1);
        fault(full + "\n job 0", 3, full.length() + 2);
        fault(full + "wants", 1, full.length());
        TwinVoice x = Probe.of(full);
        Probe.due("wants", x.count(3), 9);
        Probe.due("lends", x.count(4), 6);
        Probe.due("jobs", x.count(5), 4);
        Probe.due("the ninth want", x.want(8, 2), 1);
        Probe.due("no tenth want", x.want(9, 2), -2);
        Probe.due("the sixth lend", x.lend(5, 2), 5);
        Probe.due("no seventh lend", x.lend(6, 2), -2);
        Probe.due("the fourth job", x.job(3, 2), 1);
        Probe.due("no fifth job", x.job(4, 2), -2);
    }

    /** What end() cut off is gone, though the next bytes would go on with the last token. */
    private static void cutTokens() {
        TwinVoice x = new TwinVoice();
        Probe.tape(x, "valley pairs 1 hours 1 odds 50;");
        x.end(29);
        Probe.due("cut in a number", x.valley(), -4);
        Probe.due("at the end", x.fault(1), 29);
        x.end(4);
        Probe.due("cut in a word", x.valley(), -4);
        Probe.due("at its first byte", x.fault(1), 0);
        Probe.due("the tape as it is", x.count(8), 4);
    }

    private static void row(String call, int[] got, int... due) {
        for (int i = 0; i < due.length; i++) {
            Probe.due(call + " " + i, got[i], due[i]);
        }
    }

    private static void rowsAsTold() {
        TwinVoice x = Probe.of(HEAD + "want 3 at 2 worth 99 whisper late to 0;want 0 at 1 worth 7;"
                + "want 1 at 0 worth 8 late;want 2 at 0 worth 6 whisper;lend 1 to 3 at 2;job from 1 to 2 pays 345;");
        int[] got = new int[6];
        int[][] due = {{3, 2, 99, 1, 1, 0}, {0, 1, 7, 0, 0, -1}, {1, 0, 8, 0, 1, -1}, {2, 0, 6, 1, 0, -1}};
        for (int want = 0; want < 4; want++) {
            for (int what = 0; what < 6; what++) {
                got[what] = x.want(want, what);
            }
            row("want " + want, got, due[want]);
        }
        row("lend 0", new int[] {x.lend(0, 0), x.lend(0, 1), x.lend(0, 2)}, 1, 3, 2);
        row("job 0", new int[] {x.job(0, 0), x.job(0, 1), x.job(0, 2)}, 1, 2, 345);
        row("none such", new int[] {x.want(4, 0), x.want(-1, 0), x.want(0, 6), x.want(0, -1), x.lend(1, 0),
            x.lend(-1, 0), x.lend(0, 3), x.lend(0, -1), x.job(1, 0), x.job(-1, 0), x.job(0, 3), x.job(0, -1)},
            -2, -2, -2, -2, -2, -2, -2, -2, -2, -2, -2, -2);
    }
}
