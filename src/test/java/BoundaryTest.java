import java.nio.file.Files;
import java.nio.file.Path;

/**
 * Each sentence of the document that names a boundary, quoted beside its own tests: on both sides of the boundary, and,
 * where a call is refused, that nothing has changed but what the document names. What no test quotes is told, too.
 */
public final class BoundaryTest {
    private BoundaryTest() {
    }

    public static void main(String[] args) throws Exception {
        if (Files.exists(Path.of("../shared/DOC.md"))) Bounds.begin(new Document());
        TermsOneBounds.all();
        TermsTwoBounds.all();
        DetailsBounds.all();
        PrimePromiseBounds.all();
        NumberPromiseBounds.all();
        ListPromiseBounds.all();
        Bounds.finish();
    }
}
