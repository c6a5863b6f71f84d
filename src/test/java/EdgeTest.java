/**
 * The document, sentence by sentence, with the boundary cases that it names: each stands behind the quoted sentence and
 * the promises to which it belongs. At the end every word of the document must have been quoted.
 */
public final class EdgeTest {
    private EdgeTest() {
    }

    public static void main(String[] args) {
        EdgesOfWhole.run();
        EdgesOfTerms.run();
        EdgesOfText.run();
        EdgesOfReadings.run();
        EdgesOfRefusals.run();
        EdgesOfCalls.run();
        Quotes.end();
        Checks.end();
    }
}
