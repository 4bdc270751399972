/** Each sentence of the document has a test of its own, with its boundaries on both sides. */
public final class BoundariesTest {
    private BoundariesTest() {
    }

    public static void main(String[] args) {
        TermsBoundaries.all();
        CallBoundaries.all();
        TextBoundaries.all();
        Checks.end("all sentences hold, each with its boundaries");
    }
}
