import java.io.IOException;

/** The document from its first line to its last: each sentence with a test of its own. */
public final class BoundaryTest {
    public static void main(String[] args) throws IOException {
        Due due = new Due("BoundaryTest");
        Sentences s = new Sentences(due);
        new UseBounds(s, due).all();
        new TermsBounds(s).all();
        new RunBounds(s).all();
        new FaultBounds(s).all();
        new EditionBounds(s).all();
        new TellingBounds(s).all();
        new TickBounds(s).all();
        new SaveBounds(s).all();
        s.allAreNamed();
        due.end();
    }
}
