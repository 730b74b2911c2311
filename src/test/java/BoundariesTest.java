/** Of each sentence of the document that names a boundary, a test that stands for it alone. */
public final class BoundariesTest {
    private BoundariesTest() {
    }

    public static void main(String[] args) throws Exception {
        Sentences.readDocument();
        TermBoundaries.run();
        PromiseBoundaries.run();
        if (!Sentences.end("BoundariesTest")) {
            System.exit(1);
        }
    }
}
