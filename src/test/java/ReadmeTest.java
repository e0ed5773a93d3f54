/** The README's example answers what it says. */
public final class ReadmeTest {
    public static void main(String[] args) {
        TwinVoice x = new TwinVoice();
        String text = "valley pairs 1 hours 2 odds 50; want 0 at 0 worth 7; want 1 at 0 worth 5 late;  ";
        for (int i = 0; i < text.length(); i += 20) {
            int[] five = new int[5];
            for (int j = 0; j < 20; j++) {
                five[j / 4] = five[j / 4] << 8 | text.charAt(i + j);
            }
            x.feed(five[0], five[1], five[2], five[3], five[4]);
        }
        Probe.due("valley()", x.valley(), 3);
        Probe.due("plan()", x.plan(), 12);
        Probe.due("planned(1)", x.planned(1), 2);
        Probe.due("say(0, 0)", x.say(0, 0), 7);
        Probe.due("left()", x.left(), 5);
        Probe.close("ReadmeTest");
    }
}
