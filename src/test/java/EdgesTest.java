/**
 * Each sentence of the document that names an edge, by scripts of its own: the last that is allowed and the first that
 * is not, the empty and the full, what wraps around, what is refused, in which order, and what stays as it is then.
 */
public final class EdgesTest {
    private EdgesTest() {
    }

    public static void main(String[] args) {
        Edges e = new Edges();
        RowEdges.all(e);
        TextEdges.all(e);
        ActEdges.all(e);
        FriezeEdges.all(e);
        ForetoldEdges.all(e);
        AskedEdges.all(e);
        e.end();
    }
}
