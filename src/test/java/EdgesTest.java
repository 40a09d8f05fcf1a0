import java.io.IOException;

/** Each sentence of the document that names a boundary case, with tests of its own. */
public final class EdgesTest {
    private EdgesTest() {
    }

    public static void main(String[] args) throws IOException {
        Edges edges = new Edges();
        TellingEdges.all(edges);
        CutEdges.all(edges);
        TableEdges.all(edges);
        CellEdges.all(edges);
        SignalEdges.all(edges);
        edges.end();
    }
}
