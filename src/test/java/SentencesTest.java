/** Each sentence of the document has a test here, which bears its words. */
public final class SentencesTest extends Sentences {
    private SentencesTest() {
    }

    public static void main(String[] args) {
        FaceSentences.all();
        SetupBoundaries.all();
        TimeBoundaries.all();
        MeasuringBoundaries.all();
        FindingBoundaries.all();
        KeepingBoundaries.all();
        LookingSentences.all();
        ForecastSentences.all();
        ChangeSentences.all();
        about = "without a test";
        for (String sentence : DOCUMENT.withoutTest()) {
            fail(sentence);
        }
        end("SentencesTest");
    }
}
