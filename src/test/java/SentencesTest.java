import java.io.IOException;

/**
 * The document, sentence by sentence: each stands with the checks that hold it, its bounds from just inside and from
 * just outside. With an argument, tells all sentences and how many checks hold each.
 */
public final class SentencesTest {
    public static void main(String[] args) throws IOException {
        Ledger ledger = new Ledger();
        ledger.hold(TapeSentences::hold);
        ledger.hold(TextSentences::hold);
        ledger.hold(FaultSentences::hold);
        ledger.hold(HoldingsSentences::hold);
        ledger.hold(WaySentences::hold);
        ledger.hold(ActSentences::hold);
        ledger.hold(WouldBeSentences::hold);
        ledger.hold(ImageSentences::hold);
        ledger.close(args.length > 0);
    }
}
