import java.io.IOException;

/** Each sentence of the document that names a boundary, with a test of its own. */
public final class BoundaryTest {
    public static void main(String[] args) throws IOException {
        Due due = new Due("BoundaryTest");
        Sentences s = new Sentences(due);
        new TermsBounds(s).all();
        new RunBounds(s).all();
        new FaultBounds(s).all();
        new EditionBounds(s).all();
        new TellingBounds(s).all();
        new TickBounds(s).all();
        new SaveBounds(s).all();
        s.allAreNamed();
        due.end();
    }
}
