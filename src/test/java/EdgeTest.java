/**
 * The boundary cases that the document names, sentence by sentence: each stands behind the quoted sentence and the
 * promises to which it belongs. At the end every word of the "Terms" and of the promises must have been quoted.
 */
public final class EdgeTest {
    private EdgeTest() {
    }

    public static void main(String[] args) {
        EdgesOfTerms.run();
        EdgesOfText.run();
        EdgesOfReadings.run();
        EdgesOfRefusals.run();
        EdgesOfCalls.run();
        Quotes.end();
        Checks.end();
    }
}
