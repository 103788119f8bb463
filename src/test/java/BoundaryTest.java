import java.io.IOException;
import java.nio.file.Path;

/** Every sentence of the document that names a boundary case has its cases here, under its own words. */
public final class BoundaryTest {
    public static void main(String[] args) throws IOException {
        Sentence.open(Path.of(args.length > 0 ? args[0] : ".", "..", "shared", "DOC.md"));
        TextEdges.run();
        TableEdges.run();
        ClearingEdges.run();
        ProofEdges.run();
        WishEdges.run();
        SumEdges.run();
        RefusedEdges.run();
        if (!Sentence.end()) System.exit(1);
    }
}
