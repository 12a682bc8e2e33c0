import java.io.IOException;

/** Each sentence of the document that names a boundary, with a test of its own; all of its words have one. */
public final class EdgesTest {
    public static void main(String[] args) throws IOException {
        Clause.open();
        TermsEdges.all();
        LandEdges.all();
        CutEdges.all();
        RunEdges.all();
        ReadingEdges.all();
        SheetEdges.all();
        Clause.close();
        Checks.end();
    }
}
