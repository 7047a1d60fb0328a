import java.io.IOException;

/** Promises 1 to 47 and the description: each sentence that names a boundary case, one by one. */
public final class EdgesTest {
    public static void main(String[] args) throws IOException {
        Edges edges = new Edges();
        SectionEdges.tell(edges);
        KeyEdges.tell(edges);
        SnapshotEdges.tell(edges);
        ReaderEdges.tell(edges);
        EpochEdges.tell(edges);
        ReclaimEdges.tell(edges);
        edges.compareWithDocument();
        edges.end();
    }
}
