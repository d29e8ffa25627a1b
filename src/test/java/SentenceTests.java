/** Each sentence of the document that names a boundary case, with a test of its own. */
public final class SentenceTests extends Sentences {
    public static void main(String[] args) throws java.io.IOException {
        readDocument();
        TermSentences.tell();
        TextSentences.tell();
        CallSentences.tell();
        QuestionSentences.tell();
        noWordsLeft();
        end();
    }
}
