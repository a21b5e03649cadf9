import java.io.IOException;

/** Each sentence of the document that names a boundary case, by tests that are named by its words. */
public final class EdgeTest {
    public static void main(String[] args) throws IOException {
        Doc.open();
        TextEdges.all();
        NightEdges.all();
        ReckonEdges.all();
        ActEdges.all();
        Doc.close();
        Check.close();
    }
}
