/** Every sentence of the document that a test can break, each with a test of its own. */
public final class SentencesTest {
    private SentencesTest() {
    }

    public static void main(String[] args) {
        Sentences s = new Sentences();
        TermsSentences.all(s);
        BooksSentences.all(s);
        SheetsSentences.all(s);
        RulesSentences.all(s);
        ShopSentences.all(s);
        ReckonedSentences.all(s);
        SpoilingSentences.all(s);
        DoubtSentences.all(s);
        ToldSentences.all(s);
        ApartSentences.all(s);
        s.end();
    }
}
