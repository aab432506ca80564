import java.io.IOException;

/** Every sentence of the document, each with its bounds: what is just inside, just outside, and refused. */
public final class SentencesTest {
    public static void main(String[] args) throws IOException {
        Document.open();
        Runnable[] groups = {TermsBounds::run, AllCallsBounds::run, ComesAndGoesBounds::run, SumsBounds::run,
            BitsBounds::run, RatiosBounds::run};
        for (Runnable group : groups) {
            runToItsEnd(group);
        }
        Document.close();
        Due.end();
    }

    /** What the class throws against the document is a fault under the sentence where it comes, like any other. */
    private static void runToItsEnd(Runnable group) {
        try {
            group.run();
        } catch (RuntimeException e) {
            e.printStackTrace(System.out);
            Due.due("what is thrown", e.toString(), "nothing");
        }
    }
}
