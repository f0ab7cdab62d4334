import java.io.IOException;
import java.nio.file.Path;

/**
 * Each sentence of the document that names a boundary case has a test of its own, which begins with the
 * sentence's words. At the end every word of the document's terms and promises must have been said.
 */
public final class BoundaryTest {
  public static void main(String[] args) throws IOException {
    TermSentences.all();
    ChangeSentences.all();
    TreeSentences.all();
    BookSentences.all();
    Sentences.end(Path.of("../shared/DOC.md"));
  }
}
