/** All promises: each sentence of the document that names a case has a test of its own. */
public final class SentencesTest {
    public static void main(String[] args) throws Exception {
        Sentences.open();
        ComputationSentences.test();
        PredicateSentences.test();
        SnapshotSentences.test();
        ErrorSentences.test();
        TextPromises.test();
        EventPromises.test();
        CutPromises.test();
        WishPromises.test();
        PlayPromises.test();
        Sentences.end();
        Due.end();
    }
}
