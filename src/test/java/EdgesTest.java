/** Each sentence of the document that names a boundary case, in a test of its own. */
public final class EdgesTest {
    public static void main(String[] args) {
        Edges edges = new Edges();
        TermsEdges.add(edges);
        TapeEdges.add(edges);
        ActEdges.add(edges);
        TextEdges.add(edges);
        ListEdges.add(edges);
        FrameEdges.add(edges);
        ArrivalEdges.add(edges);
        JoinEdges.add(edges);
        PartEdges.add(edges);
        LookEdges.add(edges);
        edges.end();
    }
}
