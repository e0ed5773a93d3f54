/** Promises 1 to 65 and terms I to VIII, sentence by sentence: each that names an edge has a test of its own. */
public final class EdgeTest {
    public static void main(String[] args) throws java.io.IOException {
        EdgesOfTexts.all();
        EdgesOfTerms.all();
        EdgesOfTapes.all();
        EdgesOfVoices.all();
        EdgesOfPlans.all();
        EdgesOfTwins.all();
        EdgesOfJobs.all();
        EdgesOfCalls.all();
        EdgesOfDays.all();
        EdgesOfRows.all();
        Edges.close();
        Probe.close("EdgeTest");
    }
}
