import java.nio.file.Path;

/** Each sentence of the document that names a boundary case, with a test of its own, in the order of the document's parts. */
public final class EdgeTest {
    private EdgeTest() {
    }

    public static void main(String[] args) throws Exception {
        Edges.begin(Path.of(args.length > 0 ? args[0] : "../shared/DOC.md"));
        TextEdges.all();
        PanelEdges.all();
        TickEdges.all();
        AskEdges.all();
        WouldEdges.all();
        System.exit(Edges.end() == 0 ? 0 : 1);
    }
}
