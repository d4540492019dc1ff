/** Each sentence of the document by itself, and that none has been left out. */
public final class SentenceTest {
    public static void main(String[] args) {
        Sentences[] groups = {new LinesSentences(), new FormSentences(), new UnsetSentences(), new MeaningSentences(),
            new ChannelSentences(), new SelectSentences(), new TimeSentences(), new LeavingSentences(), new StepSentences(),
            new PromiseSentences()};
        for (Sentences group : groups) {
            group.all();
        }
        if (Sentences.document.isAtHand()) {
            String left = Sentences.document.unquoted("A program is fed", "How the state is held");
            Sentences.answers.due("sentences without a test: " + left, 0, left.length());
        }
        Sentences.answers.finish();
    }
}
