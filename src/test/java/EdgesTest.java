/** Each sentence of the document that names a boundary case, the terms first, then promise by promise. */
public final class EdgesTest {
    public static void main(String[] args) {
        Due due = new Due("EdgesTest");
        Edge edge = new Edge(due);
        TermsEdges.run(edge);
        TheTextEdges.run(edge);
        ToldInEdges.run(edge);
        MeshEdges.run(edge);
        WormsEdges.run(edge);
        TextsEdges.run(edge);
        edge.end();
        due.end();
    }
}
