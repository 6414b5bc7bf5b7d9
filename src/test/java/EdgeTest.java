import java.nio.file.Path;

/** Promises 1 to 31 and the Terms: every sentence that names a boundary case, each with a test of its own. */
public final class EdgeTest {
    public static void main(String[] args) throws Exception {
        Edge.open(Path.of("../shared/DOC.md"));
        AnswerEdges.all();
        TextEdges.all();
        FrameEdges.all();
        MomentEdges.all();
        StepEdges.all();
        ChangeEdges.all();
        SheetEdges.all();
        Edge.close();
        Check.finish();
    }
}
