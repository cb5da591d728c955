import java.io.IOException;

/** The bounds of promises 1 to 29, sentence by sentence of the document. */
public final class EdgesTest {
    public static void main(String[] args) throws IOException {
        Check check = new Check();
        Edges edges = new Edges(check);
        new SchoolEdges(edges).runAll();
        new DoneEdges(edges).runAll();
        new TriedEdges(edges).runAll();
        new SeenEdges(edges).runAll();
        edges.end();
        check.end();
    }
}
