import java.io.IOException;

/**
 * The document sentence by sentence: each passage has a test of its own, of what it says and of its
 * edges, and no passage is left of which there is none.
 */
public final class SentenceTest {
    private SentenceTest() {
    }

    public static void main(String[] args) throws IOException {
        Due due = new Due("SentenceTest");
        Sentences sentences = new Sentences(due);
        SentenceTests[] parts = {new LandSentences(sentences), new LawSentences(sentences), new RideSentences(sentences),
            new WishSentences(sentences), new ScanSentences(sentences), new KeptSentences(sentences)};
        for (SentenceTests part : parts) {
            part.all();
        }
        sentences.plain("What it is", "Passes for a land of rails: laws of passes read from texts, trains by day and over midnight, "
            + "rides judged one by one with days that count once, quotas, supplements and boats; the cheapest pass for told wishes "
            + "and the days to spend, proved by rows; scans that come late, and the price of a pass parted to railways by the miles "
            + "of the ways between them.");
        sentences.passOver("What it is", "======== \\d");
        sentences.passOver("Terms", "======== \\d?");
        sentences.passOver("Terms", "Ahead of the calls [^.]*\\.");
        sentences.nothingLeft("What it is");
        sentences.nothingLeft("Terms");
        for (int promise = 1; promise <= 33; promise++) {
            sentences.passOver("Promise " + promise, "^`[^`]*`:");
            sentences.nothingLeft("Promise " + promise);
        }
        due.end();
    }
}
