/** Every sentence of the document that names a boundary case, each by a test of its own that names it and its promise. */
public final class BoundaryTest {
    private BoundaryTest() {
    }

    public static void main(String[] args) {
        RiverBoundary.run();
        ActsBoundary.run();
        QuestionsBoundary.run();
        SeenBoundary.run();
        Boundary.finish("BoundaryTest");
    }
}
