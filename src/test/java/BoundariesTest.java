import java.io.IOException;

/** Each sentence of the document that names a boundary has a test of its own, and holds. */
public final class BoundariesTest {
    public static void main(String[] args) throws IOException {
        Sentences the = new Sentences();
        TermsBoundaries.all(the);
        UndoBoundaries.all(the);
        RowBoundaries.all(the);
        PeriodsBoundaries.all(the);
        TextsBoundaries.all(the);
        LooksBoundaries.all(the);
        WouldBeBoundaries.all(the);
        the.areAllQuoted();
        Checks.finish("BoundariesTest");
    }
}
