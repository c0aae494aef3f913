import java.io.IOException;
import java.nio.file.Path;

/**
 * The boundary cases, by the sentences of the document that name them: each has a test of its own, which
 * tells the promise or the term, and the sentence, of an answer that is not as due.
 */
public final class BoundaryTest {
    public static void main(String[] args) throws IOException {
        Sentences sentences = new Sentences("BoundaryTest");
        TextEdges.ask(sentences);
        KindEdges.ask(sentences);
        ProofEdges.ask(sentences);
        RuleEdges.ask(sentences);
        RoundEdges.ask(sentences);
        SetEdges.ask(sentences);
        BackEdges.ask(sentences);
        sentences.end(Path.of("../shared/DOC.md"));
    }
}
