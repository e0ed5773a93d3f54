/** What all tests share: answers are compared, texts come onto a tape, rows into slots. */
final class Probe {
    private static int asked = 0;
    private static int wrong = 0;

    private Probe() {
    }

    static void due(String call, long got, long due) {
        asked++;
        if (got != due) {
            wrong++;
            if (wrong <= 40) {
                System.out.println(call + " answered " + got + ", due is " + due);
            }
        }
    }

    /** Ends a test: with exit code 1 if an answer was wrong. */
    static void close(String name) {
        System.out.println(name + ": " + asked + " answers, " + wrong + " wrong");
        if (wrong != 0 || asked == 0) {
            System.exit(1);
        }
    }

    static int asked() {
        return asked;
    }

    static int wrong() {
        return wrong;
    }

    static boolean clean() {
        return wrong == 0;
    }

    /** The tape becomes a text of characters 0 to 255. */
    static void tape(TwinVoice x, String text) {
        x.end(0);
        StringBuilder padded = new StringBuilder(text);
        while (padded.length() % 20 != 0) {
            padded.append(' ');
        }
        for (int i = 0; i < padded.length(); i += 20) {
            int[] five = new int[5];
            for (int j = 0; j < 20; j++) {
                five[j / 4] = five[j / 4] << 8 | padded.charAt(i + j) & 255;
            }
            x.feed(five[0], five[1], five[2], five[3], five[4]);
        }
        x.end(text.length());
    }

    static int read(TwinVoice x, String text) {
        tape(x, text);
        return x.valley();
    }

    /** A new object with the valley of a text that has no fault. */
    static TwinVoice of(String text) {
        TwinVoice x = new TwinVoice();
        if (read(x, text) < 1) {
            due("valley() of " + text + ", fault " + x.fault(0) + " at " + x.fault(1), -4, 1);
        }
        return x;
    }

    static void fill(TwinVoice x, int slot, int width, long... numbers) {
        x.row(slot, width, numbers.length);
        for (int i = 0; i < numbers.length; i++) {
            x.write(slot, i, numbers[i]);
        }
    }

    /** Bits of a set. */
    static int set(int... members) {
        int bits = 0;
        for (int m : members) {
            bits |= 1 << m;
        }
        return bits;
    }
}
