import java.io.IOException;

/** The document, sentence by sentence: each is quoted and checked at its edges, and none is left out. */
public final class SentencesTest {
    public static void main(String[] args) throws IOException {
        Sentence sentence = new Sentence();
        new TextSentences(sentence).check();
        new HourSentences(sentence).check();
        new WouldBeSentences(sentence).check();
        new KnownSentences(sentence).check();
        sentence.end();
        Checks.end("SentencesTest");
    }
}
