import java.io.IOException;

/** Every sentence of the document at its edges; the document's path is the second argument. */
public final class EdgesTest {
    public static void main(String[] args) throws IOException {
        Edges edges = new Edges(args[1]);
        HallEdges.ask(edges);
        BidEdges.ask(edges);
        ThoughtEdges.ask(edges);
        PromiseEdges.ask(edges);
        RefusalEdges.ask(edges);
        edges.everySentenceMustBeNamed();
        edges.end();
    }
}
