/** Each sentence of the document, above all those that name a boundary case, has a test of its own. */
public final class SentencesTest {
    public static void main(String[] args) {
        SentencesOfBars.tests();
        SentencesOfRules.tests();
        SentencesOfActs.tests();
        SentencesOfQuestions.tests();
        SentencesOfNotes.tests();
        Sentences.finish();
    }
}
