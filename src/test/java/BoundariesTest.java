/**
 * A test of its own for each sentence of the document that names a boundary case: it names the promise (0 is the
 * description) and quotes the sentence, which must stand there. Each refused call is looked at from all sides.
 */
public final class BoundariesTest {
    private BoundariesTest() {
    }

    public static void main(String[] args) {
        AxisBoundaries.run();
        GlyphBoundaries.run();
        TupleBoundaries.run();
        OutlineBoundaries.run();
        OperationBoundaries.run();
        LocationBoundaries.run();
        ErrorBoundaries.run();
        Boundary.everySentenceIsQuoted();
        Check.end("BoundariesTest");
    }
}
