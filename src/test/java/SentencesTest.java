import java.io.IOException;

/** Each sentence of the document has a test of its own. */
public final class SentencesTest {
    public static void main(String[] args) throws IOException {
        Sentences said = new Sentences();
        TermsSentences.test(said);
        JobsSentences.test(said);
        RulesSentences.test(said);
        PlanSentences.test(said);
        SecondWaysSentences.test(said);
        said.finish("SentencesTest");
    }
}
