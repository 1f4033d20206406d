import java.io.IOException;

/** The document sentence by sentence, and that none of its sentences is left out. */
public final class SentencesTest {
    public static void main(String[] args) throws IOException {
        TermsSentences.all();
        TextSentences.all();
        PlaceSentences.all();
        LongRunSentences.all();
        BarsSentences.all();
        LineSentences.all();
        SheetsSentences.all();
        Sentence.allAreHeld();
        Due.end();
    }
}
