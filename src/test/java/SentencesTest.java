import java.io.IOException;

/** Each sentence of the document with the boundary cases that it names. */
public final class SentencesTest {
    private SentencesTest() {
    }

    public static void main(String[] args) throws IOException {
        Sentences sentences = new Sentences();
        LeaseSentences.all(sentences);
        MeterSentences.all(sentences);
        RepairSentences.all(sentences);
        BenefitSentences.all(sentences);
        ArrearsSentences.all(sentences);
        LineSentences.all(sentences);
        ExceptionSentences.all(sentences);
        sentences.close();
    }
}
