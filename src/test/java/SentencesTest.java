import java.io.IOException;
import java.nio.file.Path;

/**
 * The document, sentence by sentence: each stands with the checks that hold it, its bounds from just inside and from
 * just outside. With an argument, tells all sentences and how many checks hold each.
 */
public final class SentencesTest {
    public static void main(String[] args) throws IOException {
        Ledger ledger = new Ledger(Path.of("../shared/DOC.md"));
        TapeSentences.hold(ledger);
        TextSentences.hold(ledger);
        FaultSentences.hold(ledger);
        HoldingsSentences.hold(ledger);
        WaySentences.hold(ledger);
        ActSentences.hold(ledger);
        WouldBeSentences.hold(ledger);
        ImageSentences.hold(ledger);
        ledger.close(args.length > 0);
    }
}
