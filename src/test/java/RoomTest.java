import java.lang.management.ManagementFactory;

/** All calls of a run live in one room: an object is small, and its calls make nothing. */
public final class RoomTest {
    private static final String TEXT = "valley pairs 4 hours 12 odds 100;want 0 at 1 worth 9 late;want 1 at 1 worth 9 late;"
            + "want 2 at 1 worth 9 late;want 3 at 1 worth 9 late;want 4 at 1 worth 9 late;want 5 at 1 worth 9 late;"
            + "want 6 at 1 worth 9 late;want 7 at 1 worth 9 late;want 0 at 5 worth 9 late;lend 0 to 2 at 1;lend 2 to 4 at 1;"
            + "lend 4 to 6 at 1;lend 6 to 0 at 1;job from 0 to 5 pays 9;job from 1 to 5 pays 9;job from 2 to 9 pays 8;";

    private static long allocated() {
        return ((com.sun.management.ThreadMXBean) ManagementFactory.getThreadMXBean()).getCurrentThreadAllocatedBytes();
    }

    private static int dearest(TwinVoice x) {
        int sum = x.plan() + x.ways() + x.spares() + x.most() + x.left() + x.hire() + x.asks(0) + x.split(0) + x.calm(3);
        for (int want = 0; want < 9; want++) {
            sum += x.without(want) + x.with(want) + x.luck(want, 20, want) + x.clashes(want);
        }
        x.row(0, 3, 60);
        sum += x.proof(0, 4095) + x.lies(0) + x.judge(0) + x.mute() + x.rings(1) + x.rests(0, 1, 2);
        x.image(0);
        x.back(0);
        return sum + x.chorus(1) + x.unlent(0) + x.drawn(5, 1) + x.paste(0, 0, 0, 1, 9);
    }

    public static void main(String[] args) {
        TwinVoice warm = Probe.of(TEXT);
        dearest(warm);
        long start = allocated();
        TwinVoice x = new TwinVoice();
        long made = allocated();
        Probe.due("bytes of an object are under 40000: " + (made - start), made - start < 40000 ? 1 : 0, 1);
        Probe.read(x, TEXT);
        long before = allocated();
        for (int i = 0; i < 10; i++) {
            dearest(x);
        }
        long after = allocated();
        Probe.due("bytes that 600 calls made: " + (after - before), after - before < 20000 ? 1 : 0, 1);
        Probe.close("RoomTest");
    }
}
