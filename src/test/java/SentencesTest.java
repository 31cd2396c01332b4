import java.io.IOException;
import java.nio.file.Path;

/** Each sentence of the document, tested by its words. The second argument is the document's file. */
public final class SentencesTest {
    public static void main(String[] args) throws IOException {
        Document doc = new Document(Path.of(args[1]));
        TextSentences.test(doc);
        QuestionSentences.test(doc);
        AnswerSentences.test(doc);
        TableCallSentences.test(doc);
        AnswerCallSentences.test(doc);
        doc.end();
    }
}
