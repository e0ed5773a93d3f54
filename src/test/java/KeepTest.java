/** Promises 60 to 65: counts, images and slots. */
public final class KeepTest {
    private static final String TEXT = "valley pairs 3 hours 7 odds 41;want 0 at 0 worth 10;want 2 at 0 worth 20;"
            + "lend 4 to 0 at 1;job from 0 to 0 pays 1;job from 0 to 0 pays 2;job from 0 to 0 pays 3;";

    public static void main(String[] args) {
        counts();
        images();
        imagesOfNothing();
        rows();
        writes();
        pastes();
        pastesNoneSuch();
        Probe.close("KeepTest");
    }

    private static void counts() {
        TwinVoice x = Probe.of(TEXT);
        x.say(1, 0);
        x.feed(0, 0, 0, 0, 0);
        x.row(3, 0, 0);
        x.row(1, 0, 5);
        x.row(1, 2, 6);
        int[] due = {3, 7, 41, 2, 1, 3, 1, 7, 20, 2};
        for (int what = 0; what < due.length; what++) {
            Probe.due("count(" + what + ")", x.count(what), due[what]);
        }
        Probe.due("count(10)", x.count(10), -1);
        Probe.due("count(-1)", x.count(-1), -1);
    }

    private static void images() {
        TwinVoice x = Probe.of(TEXT);
        Probe.due("back(0) to nothing", x.back(0), -6);
        x.say(1, 0);
        Probe.due("image(0)", x.image(0), 0);
        Probe.due("image(-1)", x.image(-1), -2);
        Probe.due("image(3)", x.image(3), -2);
        Probe.due("back(-1)", x.back(-1), -2);
        Probe.due("back(3)", x.back(3), -2);
        Probe.due("back(1) to nothing", x.back(1), -6);
        x.say(0, 0);
        Probe.due("image(1)", x.image(1), 0);
        x.anew();
        x.rate(0, 77);
        Probe.due("image(2)", x.image(2), 0);
        x.feed(0, 0, 0, 0, 0);
        x.row(0, 0, 3);
        Probe.due("plan()", x.plan(), 97);
        Probe.due("back(0)", x.back(0), 0);
        Probe.due("said()", x.said(), 2);
        Probe.due("worth as kept", x.want(0, 2), 10);
        Probe.due("plan() then", x.plan(), 30);
        Probe.due("the tape stays", x.count(8), 20);
        Probe.due("the slots stay", x.count(9), 1);
        Probe.due("back(1)", x.back(1), 0);
        Probe.due("said() of image 1", x.said(), 3);
        Probe.due("the latest one is known", x.undo(), 1);
        Probe.due("the first one stays", x.said(), 2);
        x.undo();
        x.say(0, 0);
        x.say(1, 0);
        Probe.due("back(1) again", x.back(1), 0);
        Probe.due("undo() of its latest", x.undo(), 1);
        Probe.due("the first one of image 1", x.said(), 2);
        Probe.due("back(2)", x.back(2), 0);
        Probe.due("worth of image 2", x.want(0, 2), 77);
        Probe.due("nothing said", x.count(6), 0);
        x.rate(0, 5);
        Probe.due("back(2) again", x.back(2), 0);
        Probe.due("an image doesn't change", x.want(0, 2), 77);
    }

    private static void imagesOfNothing() {
        TwinVoice x = new TwinVoice();
        Probe.due("image of no valley", x.image(0), 0);
        Probe.read(x, TEXT);
        Probe.due("fault of another valley", Probe.read(x, "fog"), -4);
        Probe.due("voice lent", x.voice(2, 1), 0);
        Probe.due("back to none", x.back(0), 0);
        Probe.due("no valley", x.plan(), -2);
        Probe.due("no lines", x.count(7), 0);
        Probe.due("no hour", x.may(0), -2);
        Probe.due("the fault is the latest valley()'s", x.fault(0), 1);
        Probe.read(x, TEXT);
        x.image(0);
        x.valley();
        x.back(0);
        Probe.due("a valley again", x.may(1), Probe.set(0, 1, 2, 3));
        Probe.due("its plan", x.plan(), 30);
        Probe.due("its hire", x.hire(), 6);
    }

    private static void rows() {
        TwinVoice x = new TwinVoice();
        Probe.due("row(4, 0, 1)", x.row(4, 0, 1), -2);
        Probe.due("row(-1, 0, 1)", x.row(-1, 0, 1), -2);
        Probe.due("row(0, 4, 1)", x.row(0, 4, 1), -2);
        Probe.due("row(0, -1, 1)", x.row(0, -1, 1), -2);
        Probe.due("row(0, 0, 61)", x.row(0, 0, 61), -2);
        Probe.due("row(0, 0, -1)", x.row(0, 0, -1), -3);
        Probe.due("row(0, 4, -1)", x.row(0, 4, -1), -2);
        Probe.due("the slot stays", x.count(9), 0);
        Probe.due("row(0, 0, 60)", x.row(0, 0, 60), 0);
        Probe.due("row(3, 3, 0)", x.row(3, 3, 0), 0);
        Probe.due("count(9)", x.count(9), 2);
        Probe.due("row(0, 0, -5)", x.row(0, 0, -5), -3);
        Probe.due("it has 60 still", x.write(0, 59, 1), 0);
        TwinVoice y = Probe.of("valley pairs 1 hours 2 odds 0;");
        Probe.fill(y, 0, 0, 0, 1, 1, 1);
        Probe.due("told", y.callers(0, 0), 0);
        y.row(0, 0, 4);
        Probe.due("all 0", y.callers(0, 1), 3);
        Probe.fill(y, 0, 0, 1, 1, 1, 1);
        y.row(0, 0, 4);
        Probe.due("all 0, the first one too", y.callers(0, 1), 3);
    }

    private static void writes() {
        TwinVoice x = Probe.of("valley pairs 1 hours 2 odds 0;");
        Probe.due("nothing", x.write(0, 0, 1), -6);
        Probe.due("nothing, no such number", x.write(0, -1, 1), -6);
        Probe.due("slot 4", x.write(4, 0, 1), -2);
        Probe.due("slot -1", x.write(-1, 0, 1), -2);
        x.row(0, 0, 2);
        Probe.due("number 2", x.write(0, 2, 1), -7);
        Probe.due("number -1", x.write(0, -1, 1), -7);
        Probe.due("number 1", x.write(0, 1, 1), 0);
        Probe.due("person 1", x.callers(0, 0), 0);
        x.row(1, 0, 0);
        Probe.due("no numbers", x.write(1, 0, 1), -7);
        long[] high = {1L << 8, 1L << 16, 1L << 32};
        for (int width = 0; width < 4; width++) {
            for (int cut = 0; cut < 3; cut++) {
                Probe.fill(x, 2, width, 1, high[cut]);
                Probe.due("width " + width + ", cut " + cut, x.lies(2), cut >= width ? 0 : -2);
            }
        }
    }

    /** Which of the slot's numbers, two each, are the 1s that were written. */
    private static void holds(String call, TwinVoice x, int slot, int hours) {
        int got = 0;
        for (int hour = 0; hour < 6; hour++) {
            got |= x.callers(slot, hour) == 15 ? 0 : 1 << hour;
        }
        Probe.due(call, got, hours);
    }

    private static TwinVoice pasteValley() {
        TwinVoice x = Probe.of("valley pairs 2 hours 6 odds 0;");
        Probe.fill(x, 0, 1, 0, 0, 1, 0, 2, 0, 3, 0);
        Probe.fill(x, 1, 1, 5, 0, 5, 0, 5, 0, 5, 0, 5, 0);
        return x;
    }

    private static void pastes() {
        TwinVoice x = pasteValley();
        holds("at first", x, 1, Probe.set(5));
        Probe.due("paste to another", x.paste(0, 2, 1, 4, 4), 0);
        holds("put", x, 1, Probe.set(1, 2, 5));
        holds("as they were", x, 0, Probe.set(0, 1, 2, 3));
        Probe.due("paste all", x.paste(0, 0, 1, 0, 8), 0);
        holds("put all", x, 1, Probe.set(0, 1, 2, 3, 5));
        Probe.due("up its own", x.paste(0, 0, 0, 2, 6), 0);
        holds("0 0 1 2", x, 0, Probe.set(0, 1, 2));
        x = pasteValley();
        Probe.due("down its own", x.paste(0, 2, 0, 0, 6), 0);
        holds("1 2 3 3", x, 0, Probe.set(1, 2, 3));
        Probe.due("none", x.paste(0, 8, 1, 10, 0), 0);
        Probe.due("to the last", x.paste(0, 0, 1, 8, 2), 0);
        holds("5 5 5 5 1", x, 1, Probe.set(1, 5));
    }

    private static void pastesNoneSuch() {
        TwinVoice x = pasteValley();
        x.row(2, 2, 8);
        Probe.due("slot 4", x.paste(4, 0, 1, 0, 1), -2);
        Probe.due("slot -1", x.paste(-1, 0, 1, 0, 1), -2);
        Probe.due("to 4", x.paste(0, 0, 4, 0, 1), -2);
        Probe.due("to -1, from nothing", x.paste(3, 0, -1, 0, 1), -2);
        Probe.due("from nothing", x.paste(3, 0, 0, 0, 1), -6);
        Probe.due("to nothing", x.paste(0, 0, 3, 0, -1), -6);
        Probe.due("not of one width", x.paste(0, 0, 2, 0, 1), -8);
        Probe.due("-8 ahead of -7", x.paste(0, -1, 2, 0, 99), -8);
        int[][] beyond = {{-1, 0, 1}, {0, -1, 1}, {0, 0, -1}, {0, 0, 9}, {8, 0, 1}, {0, 10, 1}, {7, 0, 2}, {0, 9, 2},
            {Integer.MAX_VALUE, 0, 1}, {0, Integer.MAX_VALUE, 1}, {1, 0, Integer.MAX_VALUE}, {9, 0, 0}, {0, 11, 0},
            {Integer.MIN_VALUE, 0, Integer.MAX_VALUE}};
        for (int[] b : beyond) {
            Probe.due("paste(0, " + b[0] + ", 1, " + b[1] + ", " + b[2] + ")", x.paste(0, b[0], 1, b[1], b[2]), -7);
        }
        holds("nothing happened", x, 1, Probe.set(5));
        holds("nor here", x, 0, Probe.set(0, 1, 2, 3));
    }
}
