import java.io.IOException;

/** Every sentence of the document, each with its bounds: what is just inside, just outside, and refused. */
public final class SentencesTest {
    public static void main(String[] args) throws IOException {
        Document.open();
        TermsBounds.run();
        AllCallsBounds.run();
        ComesAndGoesBounds.run();
        SumsBounds.run();
        BitsBounds.run();
        RatiosBounds.run();
        Document.close();
        Due.end();
    }
}
