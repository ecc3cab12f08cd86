import java.io.IOException;

/**
 * Each sentence of the document that names a boundary case: too small, too large, empty, full, the
 * last one that may be and the first one that may not. Each answer bears the promise and the sentence.
 */
public final class BoundaryTest {
    public static void main(String[] args) throws IOException {
        Sentences sentences = new Sentences();
        new ObjectBounds(sentences).run();
        new FormBounds(sentences).run();
        new ReasonBounds(sentences).run();
        new PackBounds(sentences).run();
        sentences.end();
    }
}
