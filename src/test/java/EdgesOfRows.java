/** Edges of promises 60 to 65: counts, images, slots. */
final class EdgesOfRows {
    private static final String FEW = "valley pairs 3 hours 7 odds 41;want 0 at 0 worth 10;want 2 at 0 worth 20;lend 4 to 0 at 1;"
            + "job from 0 to 0 pays 1;job from 0 to 1 pays 2;job from 0 to 2 pays 3;";
    private static final String TWO = "valley pairs 2 hours 6 odds 0;";

    private EdgesOfRows() {
    }

    static void all() {
        count();
        image();
        back();
        row();
        write();
        paste();
        pasteRefused();
    }

    private static void count() {
        Edges.of(60);
        Edges.says("0 PAIRS, 1 hours, 2 odds, 3 WANTS, 4 LENDS, 5 JOBS, 6 WANTS said, 7 LINES, 8 bytes of the TAPE, 9 SLOTS that have a row.", () -> {
            TwinVoice x = Probe.of(FEW);
            int[] due = {3, 7, 41, 2, 1, 3, 0, 7, 0, 0};
            for (int what = 0; what <= 9; what++) {
                Probe.due("count(" + what + ")", x.count(what), due[what]);
            }
            x.say(1, 0);
            x.feed(0, 0, 0, 0, 0);
            x.end(13);
            x.row(0, 0, 0);
            x.row(3, 3, 60);
            x.row(3, 1, 1);
            Probe.due("said", x.count(6), 1);
            Probe.due("bytes", x.count(8), 13);
            Probe.due("SLOTS, one of them of no numbers", x.count(9), 2);
            x.row(1, 0, 61);
            x.row(1, 0, -1);
            Probe.due("not those refused", x.count(9), 2);
            x.row(1, 0, 1);
            x.row(2, 0, 1);
            Probe.due("all", x.count(9), 4);
            x.say(0, 0);
            Probe.due("both said", x.count(6), 2);
        });
        Edges.says("NONE for others.", () -> {
            TwinVoice x = Probe.of(FEW);
            for (int what : new int[] {-1, 10, 11, Integer.MIN_VALUE, Integer.MAX_VALUE}) {
                Probe.due("count(" + what + ")", x.count(what), -1);
                Probe.due("count(" + what + ") of a new object", new TwinVoice().count(what), -1);
            }
        });
    }

    private static void image() {
        Edges.of(61);
        Edges.says("IMAGE k (0 .. 2) keeps the VALLEY, and what was said: 0.", () -> {
            TwinVoice x = Probe.of(FEW);
            x.say(1, 0);
            for (int k = 0; k < 3; k++) {
                Edges.stays("image(" + k + ")", x, 0, kept(k));
            }
            x.say(0, 0);
            x.image(1);
            x.anew();
            Probe.read(x, TWO);
            x.image(2);
            Probe.due("back(0)", x.back(0), 0);
            Probe.due("what was said then", x.said(), 2);
            x.back(1);
            Probe.due("kept again", x.said(), 3);
            x.back(2);
            Probe.due("in place of what it kept", x.count(0), 2);
            Probe.due("without a VALLEY too", new TwinVoice().image(0), 0);
        });
        Edges.says("-2: no such k.", () -> {
            TwinVoice x = Probe.of(FEW);
            Edges.noneBut("k", 2, x::image);
            Edges.noneBut("k without a VALLEY", 2, new TwinVoice()::image);
        });
    }

    private static java.util.function.ToIntFunction<TwinVoice> kept(int k) {
        return y -> y.image(k);
    }

    private static void back() {
        Edges.of(62);
        Edges.says("It is as IMAGE k has it: 0.", () -> {
            TwinVoice x = Probe.of(FEW);
            x.say(1, 0);
            x.say(0, 0);
            x.image(0);
            x.anew();
            x.rate(0, 99);
            Probe.due("plan() without it", x.plan(), 119);
            x.say(0, 0);
            x.say(1, 0);
            Probe.due("back(0)", x.back(0), 0);
            Probe.due("worth", x.want(0, 2), 10);
            Probe.due("plan()", x.plan(), 30);
            Probe.due("both said", x.said(), 3);
            Probe.due("the latest", x.undo(), 1);
            Probe.due("was WANT 0", x.said(), 2);
            Probe.due("back(0) once more", x.back(0), 0);
            Probe.due("both said again", x.said(), 3);
            x.feed(0, 0, 0, 0, 0);
            x.row(0, 0, 2);
            x.fault(0);
            Probe.due("and again", x.back(0), 0);
            Probe.due("the TAPE stays", x.count(8), 20);
            Probe.due("the SLOTS stay", x.count(9), 1);
            Probe.read(x, TWO + "lend 0 to 2 at 0;lend 0 to 2 at 1;");
            Probe.due("another VALLEY", x.may(0), 12);
            x.back(0);
            Probe.due("MAY as it was", x.may(1), Probe.set(0, 1, 2, 3));
            Probe.due("pay as it was", x.hire(), 6);
            TwinVoice none = new TwinVoice();
            none.image(1);
            Probe.read(none, FEW);
            Probe.due("back to no VALLEY", none.back(1), 0);
            Probe.due("there is none", none.plan(), -2);
            Probe.due("no PAIRS", none.count(0), 0);
        });
        Edges.says("-2: no such k;", () -> {
            TwinVoice x = Probe.of(FEW);
            for (int k = 0; k < 3; k++) {
                x.image(k);
            }
            Edges.noneBut("k", 2, x::back);
            Edges.stays("back(3)", x, -2, y -> y.back(3));
        });
        Edges.says("-6: it has nothing.", () -> {
            TwinVoice x = Probe.of(FEW);
            x.say(0, 0);
            x.image(1);
            Edges.stays("back(0)", x, -6, y -> y.back(0));
            Edges.stays("back(2)", x, -6, y -> y.back(2));
            Probe.due("back(1)", x.back(1), 0);
        });
    }

    private static void row() {
        Edges.of(63);
        Edges.says("A SLOT (0 .. 3) has a row of n numbers of a WIDTH, all 0 (in place of another one): 0.", () -> {
            TwinVoice x = Probe.of(TWO);
            for (int slot = 0; slot < 4; slot++) {
                Probe.due("no numbers", x.row(slot, 0, 0), 0);
                Probe.due("none of them", x.write(slot, 0, 1), -7);
                Probe.due("sixty", x.row(slot, 3 - slot, 60), 0);
                Probe.due("the last of them", x.write(slot, 59, 1), 0);
            }
            Probe.fill(x, 0, 0, 5, 3, 5, 3);
            Probe.due("told", x.callers(0, 5), 3);
            x.row(0, 0, 4);
            Probe.due("all 0", x.callers(0, 5), 15);
            Probe.due("0 is HOUR 0, PERSON 0", x.callers(0, 0), 12);
            x.row(0, 0, 2);
            Probe.due("in place of a longer one", x.write(0, 2, 1), -7);
        });
        Edges.says("-2: there is no such SLOT or WIDTH (0 .. 3), or n is above 60;", () -> {
            TwinVoice x = Probe.of(TWO);
            Edges.noneBut("SLOT", 3, slot -> x.row(slot, 0, 1));
            Edges.noneBut("WIDTH", 3, width -> x.row(0, width, 1));
            Probe.due("n 60", x.row(0, 0, 60), 0);
            Probe.due("n 61", x.row(0, 0, 61), -2);
            Probe.due("n the greatest", x.row(0, 0, Integer.MAX_VALUE), -2);
            Probe.fill(x, 0, 0, 5, 3);
            Edges.stays("n 61 of a SLOT that has a row", x, -2, y -> y.row(0, 0, 61));
            Edges.stays("WIDTH 4 of it", x, -2, y -> y.row(0, 4, 2));
        });
        Edges.says("-3, and the SLOT stays: n is below 0.", () -> {
            TwinVoice x = Probe.of(TWO);
            Edges.stays("n -1 of one that has nothing", x, -3, y -> y.row(1, 0, -1));
            Probe.fill(x, 0, 0, 5, 3);
            for (int n : new int[] {-1, -2, -60, Integer.MIN_VALUE}) {
                Probe.due("n " + n, x.row(0, 3, n), -3);
                Probe.due("the row stays", x.callers(0, 5), 3);
                Probe.due("its length too", x.write(0, 2, 0), -7);
            }
            Probe.fill(x, 1, 0, 0, 0);
            Probe.due("its WIDTH too", x.paste(0, 0, 1, 0, 2), 0);
        });
    }

    private static void write() {
        Edges.of(64);
        Edges.says("Number i of the SLOT's row is v, cut to its WIDTH: 0.", () -> {
            TwinVoice x = Probe.of(TWO);
            x.row(0, 0, 2);
            Probe.due("the first", x.write(0, 0, 5), 0);
            Probe.due("the last", x.write(0, 1, 3), 0);
            Probe.due("told", x.callers(0, 5), 3);
            Probe.due("another in its place", x.write(0, 1, 0), 0);
            Probe.due("told then", x.callers(0, 5), 12);
            int[] bits = {8, 16, 32, 64};
            for (int width = 0; width < 4; width++) {
                x.row(0, width, 2);
                x.write(0, 0, width == 3 ? 5 : (7L << bits[width]) + 5);
                x.write(0, 1, width == 3 ? 3 : (-1L << bits[width]) + 3);
                Probe.due("cut to WIDTH " + width, x.callers(0, 5), 3);
                x.write(0, 1, (1L << bits[width] - 1) + 3);
                Probe.due("its highest bit stays, WIDTH " + width, x.callers(0, 5), -2);
                x.write(0, 1, Long.MIN_VALUE);
                Probe.due("the least, WIDTH " + width, x.callers(0, 0), width == 3 ? -2 : 15);
                x.write(0, 1, -1);
                Probe.due("-1, WIDTH " + width, x.callers(0, 0), -2);
            }
        });
        Edges.says("-2: there is no such SLOT;", () -> {
            TwinVoice x = Probe.of(TWO);
            Edges.noneBut("SLOT", 3, slot -> x.write(slot, 0, 1));
            for (int slot = 0; slot < 4; slot++) {
                x.row(slot, 0, 1);
            }
            Edges.noneBut("SLOT with a row", 3, slot -> x.write(slot, 0, 1));
        });
        Edges.says("-6: it has nothing;", () -> {
            TwinVoice x = Probe.of(TWO);
            x.row(2, 0, 0);
            for (int slot = 0; slot < 4; slot++) {
                Probe.due("SLOT " + slot, x.write(slot, 0, 1), slot == 2 ? -7 : -6);
                Probe.due("SLOT " + slot + ", no such number", x.write(slot, -1, 1), slot == 2 ? -7 : -6);
            }
        });
        Edges.says("-7: there is no such number.", () -> {
            TwinVoice x = Probe.of(TWO);
            for (int n = 0; n <= 60; n += 20) {
                x.row(0, 0, n);
                for (int i : new int[] {-1, n, 60, Integer.MIN_VALUE, Integer.MAX_VALUE}) {
                    Probe.due("number " + i + " of " + n, x.write(0, i, 1), -7);
                }
            }
            Probe.fill(x, 0, 0, 5, 3);
            Edges.stays("number 2 of 2", x, -7, y -> y.write(0, 2, 1));
        });
    }

    /** SLOT 0 tells PERSON 0 at 1, 2, 3, 4; SLOT 1 tells him at 5 five times. */
    private static TwinVoice told() {
        TwinVoice x = Probe.of(TWO);
        Probe.fill(x, 0, 1, 1, 0, 2, 0, 3, 0, 4, 0);
        Probe.fill(x, 1, 1, 5, 0, 5, 0, 5, 0, 5, 0, 5, 0);
        return x;
    }

    /** HOURS at which a SLOT tells somebody. */
    private static int hours(TwinVoice x, int slot) {
        return 63 & ~x.alibi(slot, 0);
    }

    private static void paste() {
        Edges.of(65);
        Edges.says("So many numbers of a SLOT's row, from one on, are put to another one's", () -> {
            TwinVoice x = told();
            Probe.due("two", x.paste(0, 2, 1, 4, 2), 0);
            Probe.due("put", hours(x, 1), Probe.set(2, 5));
            Probe.due("as it was", hours(x, 0), Probe.set(1, 2, 3, 4));
            Probe.due("none", x.paste(0, 0, 1, 0, 0), 0);
            Probe.due("none, at the ends", x.paste(0, 8, 1, 10, 0), 0);
            Probe.due("nothing put", hours(x, 1), Probe.set(2, 5));
            Probe.due("all", x.paste(0, 0, 1, 2, 8), 0);
            Probe.due("all put, the first stays", hours(x, 1), Probe.set(1, 2, 3, 4, 5));
            Probe.due("the last two", x.paste(0, 6, 1, 0, 2), 0);
            Probe.due("over the first", hours(x, 1), Probe.set(1, 2, 3, 4));
            x.row(2, 0, 0);
            x.row(3, 0, 0);
            Probe.due("of rows of no numbers", x.paste(2, 0, 3, 0, 0), 0);
            for (int slot = 2; slot < 4; slot++) {
                long[] sixty = new long[60];
                sixty[58] = slot;
                Probe.fill(x, slot, 3, sixty);
            }
            Probe.due("sixty", x.paste(3, 0, 2, 0, 60), 0);
            Probe.due("put sixty", hours(x, 2), Probe.set(0, 3));
        });
        Edges.says("(or its own), from one on, as they were: 0.", () -> {
            TwinVoice up = told();
            Probe.due("up", up.paste(0, 0, 0, 2, 6), 0);
            Probe.due("1, 1, 2, 3", hours(up, 0), Probe.set(1, 2, 3));
            TwinVoice down = told();
            Probe.due("down", down.paste(0, 2, 0, 0, 6), 0);
            Probe.due("2, 3, 4, 4", hours(down, 0), Probe.set(2, 3, 4));
            TwinVoice same = told();
            Probe.due("on itself", same.paste(0, 0, 0, 0, 8), 0);
            Probe.due("the same", hours(same, 0), Probe.set(1, 2, 3, 4));
        });
    }

    private static void pasteRefused() {
        Edges.says("-2: there is no such SLOT;", () -> {
            TwinVoice x = told();
            for (int slot : new int[] {-1, 4, Integer.MIN_VALUE, Integer.MAX_VALUE}) {
                Probe.due("from " + slot, x.paste(slot, 0, 1, 0, 1), -2);
                Probe.due("to " + slot, x.paste(0, 0, slot, 0, 1), -2);
                Probe.due("from nothing to " + slot, x.paste(3, 0, slot, 0, 1), -2);
                Probe.due("from " + slot + " to nothing", x.paste(slot, 0, 3, 0, -1), -2);
            }
        });
        Edges.says("-6: one has nothing;", () -> {
            TwinVoice x = told();
            Probe.due("from nothing", x.paste(2, 0, 0, 0, 1), -6);
            Probe.due("to nothing", x.paste(0, 0, 2, 0, 1), -6);
            Probe.due("from nothing to itself", x.paste(2, 0, 2, 0, 0), -6);
            Probe.due("ahead of -7", x.paste(0, -1, 2, 99, -1), -6);
        });
        Edges.says("-8: they are not of one WIDTH;", () -> {
            TwinVoice x = told();
            for (int width = 0; width < 4; width++) {
                x.row(2, width, 8);
                Probe.due("to WIDTH " + width, x.paste(0, 0, 2, 0, 1), width == 1 ? 0 : -8);
                Probe.due("from WIDTH " + width, x.paste(2, 0, 0, 0, 1), width == 1 ? 0 : -8);
            }
            Edges.stays("ahead of -7", x, -8, y -> y.paste(1, -1, 2, 99, -1));
            Edges.stays("none of them", x, -8, y -> y.paste(1, 0, 2, 0, 0));
        });
        Edges.says("-7, and nothing happens: some are beyond their rows, or a place or n is below 0.", () -> {
            TwinVoice x = told();
            int[][] beyond = {{-1, 0, 1}, {0, -1, 1}, {0, 0, -1}, {-1, 0, 0}, {0, -1, 0}, {0, 0, 9}, {8, 0, 1}, {7, 0, 2}, {0, 10, 1},
                {0, 9, 2}, {0, 3, 8}, {Integer.MAX_VALUE, 0, 1}, {0, Integer.MAX_VALUE, 1}, {0, 0, Integer.MAX_VALUE},
                {1, 1, Integer.MAX_VALUE}, {0, 0, Integer.MIN_VALUE}, {Integer.MIN_VALUE, 0, 1}, {0, Integer.MIN_VALUE, 1},
                {Integer.MAX_VALUE, Integer.MAX_VALUE, Integer.MAX_VALUE}};
            for (int[] b : beyond) {
                Probe.due("paste(0, " + b[0] + ", 1, " + b[1] + ", " + b[2] + ")", x.paste(0, b[0], 1, b[1], b[2]), -7);
            }
            Edges.stays("one of two beyond", x, -7, y -> y.paste(0, 6, 1, 0, 3));
            Probe.due("nothing came", hours(x, 1), Probe.set(5));
            Probe.due("nor in its own", x.paste(0, 0, 0, 1, 8), -7);
            Probe.due("as it was", hours(x, 0), Probe.set(1, 2, 3, 4));
        });
    }
}
