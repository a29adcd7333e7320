import java.io.IOException;

/** Each sentence of the document that names a boundary has a test of its own here. */
public final class SentencesTest {
    public static void main(String[] args) throws IOException {
        Sentences s = new Sentences();
        RateSentences.hold(s);
        StationSentences.hold(s);
        UpdateSentences.hold(s);
        ChainSentences.hold(s);
        ErrorSentences.hold(s);
        SetupSentences.hold(s);
        SendingSentences.hold(s);
        OpenChainSentences.hold(s);
        EstimateSentences.hold(s);
        CountSentences.hold(s);
        ChannelSentences.hold(s);
        HistorySentences.hold(s);
        s.end();
    }
}
