/** Each sentence of the document that names a boundary case has a test of its own here. */
public final class BoundariesTest extends Boundaries {
    private BoundariesTest() {
    }

    public static void main(String[] args) {
        SetupBoundaries.all();
        TimeBoundaries.all();
        MeasuringBoundaries.all();
        FindingBoundaries.all();
        KeepingBoundaries.all();
        about = "without a test";
        for (String sentence : DOCUMENT.withoutTest()) {
            fail(sentence);
        }
        end("BoundariesTest");
    }
}
