/** Promises 45 to 49: who can have called, and whom to ask. */
public final class CallTest {
    private static final String TEXT = "valley pairs 2 hours 3 odds 0;lend 0 to 2 at 1;";

    public static void main(String[] args) {
        callers();
        severalHours();
        lies();
        noneSuch();
        numbersNoneSuch();
        Probe.close("CallTest");
    }

    /** At hour 1 pair 0 is dumb, and 2 and 3 don't share. */
    private static void callers() {
        TwinVoice x = Probe.of(TEXT);
        Probe.fill(x, 0, 0);
        Probe.due("nothing told, hour 0", x.callers(0, 0), 15);
        Probe.due("nothing told, hour 1", x.callers(0, 1), 12);
        Probe.fill(x, 0, 1, 0, 1, 1, 3, 2, 2, 2, 0);
        Probe.due("a twin keeps the voice", x.callers(0, 0), Probe.set(2, 3));
        Probe.due("the other has a lent one", x.callers(0, 1), Probe.set(2));
        Probe.due("all kept", x.callers(0, 2), 0);
        Probe.due("alibi(0)", x.alibi(0, 0), 0);
        Probe.due("alibi(2)", x.alibi(0, 2), Probe.set(0, 1));
        Probe.due("alibi(3)", x.alibi(0, 3), Probe.set(0));
    }

    private static void severalHours() {
        TwinVoice x = Probe.of("valley pairs 3 hours 4 odds 0;");
        Probe.fill(x, 3, 3, 0, 0, 1, 2, 2, 0, 3, 2, 3, 4);
        Probe.due("culprits of none", x.culprits(3, 0), 63);
        Probe.due("culprits of hour 0", x.culprits(3, 1), Probe.set(2, 3, 4, 5));
        Probe.due("culprits of 0 and 1", x.culprits(3, 3), Probe.set(4, 5));
        Probe.due("culprits of all", x.culprits(3, 15), 0);
        Probe.due("proof of none", x.proof(3, 0), 0);
        Probe.due("proof of hour 0", x.proof(3, 1), 1);
        Probe.due("proof of 0 and 2", x.proof(3, 5), 1);
        Probe.due("proof of 0 to 2", x.proof(3, 7), 2);
        Probe.due("proof of all", x.proof(3, 15), 2);
        Probe.due("proof of 1 and 3", x.proof(3, 10), 1);
        Probe.fill(x, 3, 3);
        Probe.due("proof where nothing is left out", x.proof(3, 15), 0);
    }

    private static void lies() {
        TwinVoice x = Probe.of(TEXT);
        Probe.fill(x, 2, 2);
        Probe.due("no rows", x.lies(2), 0);
        Probe.fill(x, 2, 2, 1, 0);
        Probe.due("dumb then", x.lies(2), 1);
        Probe.fill(x, 2, 2, 0, 0, 0, 1);
        Probe.due("twins who share", x.lies(2), 1);
        Probe.fill(x, 2, 2, 1, 2, 1, 3);
        Probe.due("twins who don't", x.lies(2), 0);
        Probe.fill(x, 2, 2, 0, 0, 2, 1, 0, 0, 0, 2);
        Probe.due("other hours, the same one, other pairs", x.lies(2), 0);
        Probe.fill(x, 2, 2, 0, 0, 0, 1, 0, 0, 1, 1, 1, 0);
        Probe.due("each of several", x.lies(2), 4);
    }

    private static void all(String when, TwinVoice x, int slot, int due) {
        Probe.due(when + ": callers", x.callers(slot, 0), due);
        Probe.due(when + ": culprits", x.culprits(slot, 1), due);
        Probe.due(when + ": proof", x.proof(slot, 1), due);
        Probe.due(when + ": alibi", x.alibi(slot, 0), due);
        Probe.due(when + ": lies", x.lies(slot), due);
    }

    private static void noneSuch() {
        TwinVoice x = new TwinVoice();
        all("no valley, nothing", x, 0, -2);
        Probe.fill(x, 0, 0);
        all("no valley", x, 0, -2);
        TwinVoice y = Probe.of(TEXT);
        all("nothing", y, 0, -6);
        all("no slot", y, 4, -2);
        all("no slot below", y, -1, -2);
        Probe.due("hour 3, nothing", y.callers(0, 3), -2);
        Probe.due("hour -1, nothing", y.callers(0, -1), -2);
        Probe.due("hours 8, nothing", y.culprits(0, 8), -2);
        Probe.due("hours -1, nothing", y.culprits(0, -1), -2);
        Probe.due("proof, hours 8", y.proof(0, 8), -2);
        Probe.due("proof, hours -1", y.proof(0, -1), -2);
        Probe.due("person 4, nothing", y.alibi(0, 4), -2);
        Probe.due("person -1, nothing", y.alibi(0, -1), -2);
        Probe.fill(y, 0, 0);
        Probe.due("hour 3", y.callers(0, 3), -2);
        Probe.due("hours 8", y.culprits(0, 8), -2);
        Probe.due("hours 7", y.culprits(0, 7), Probe.set(2, 3));
        Probe.due("person 4", y.alibi(0, 4), -2);
        Probe.fill(y, 0, 0, 0);
        all("not two each", y, 0, -2);
        Probe.fill(y, 0, 0, 0, 0, 0);
        all("not two each, three", y, 0, -2);
    }

    private static void numbersNoneSuch() {
        TwinVoice x = Probe.of(TEXT);
        Probe.fill(x, 0, 0, 0, 0, 3, 0);
        all("hour 3", x, 0, -2);
        Probe.fill(x, 0, 0, 0, 0, 0, 4);
        all("person 4", x, 0, -2);
        Probe.fill(x, 0, 0, 0, 0, -1, 0);
        all("hour -1", x, 0, -2);
        Probe.fill(x, 0, 0, 0, 0, 0, -1);
        all("person -1", x, 0, -2);
        Probe.fill(x, 0, 3, 0, 1L << 32);
        all("person 2 to the 32nd", x, 0, -2);
        Probe.fill(x, 0, 2, 0, 1L << 32);
        Probe.due("cut to 4 bytes", x.lies(0), 0);
        Probe.fill(x, 0, 0, 256, 511);
        all("cut to 1 byte", x, 0, -2);
        Probe.fill(x, 0, 0, 256, 258);
        Probe.due("cut to 1 byte, person 2", x.callers(0, 0), Probe.set(0, 1));
    }
}
