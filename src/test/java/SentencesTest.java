import java.io.IOException;

/**
 * The document read from its beginning to its end: each sentence of the promises, and of the parts of
 * the Description that they rest on, is quoted and followed by the calls that would break it.
 */
public final class SentencesTest {
    public static void main(String[] args) throws IOException {
        Sentence.open();
        MeterSentences.all();
        ReadingSentences.all();
        EnergySentences.all();
        BillSentences.all();
        RevisionSentences.all();
        TextSentences.all();
        Sentence.close("SentencesTest");
    }
}
