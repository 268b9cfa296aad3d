import java.io.IOException;

/** Each sentence of the document by itself, above all those that name a boundary; run from the project's folder. */
public final class SentencesTest {
    private SentencesTest() {
    }

    public static void main(String[] args) throws IOException {
        Sentences.readDocument();
        TermsSentences.run();
        CountedTermsSentences.run();
        RowSentences.run();
        CoverSentences.run();
        AskedSentences.run();
        CountedSentences.run();
        if (!Sentences.allHold()) {
            System.exit(1);
        }
    }
}
