import java.io.IOException;
import java.nio.file.Files;
import java.nio.file.Path;

/** All 37 promises: each sentence that names a boundary case, just inside and just outside of it. */
public final class EdgesTest {
    public static void main(String[] args) throws IOException {
        Edges edges = new Edges(Files.readString(Path.of("../shared/DOC.md")));
        new TrayEdges(edges).all();
        new NetEdges(edges).all();
        new TextEdges(edges).all();
        new LotEdges(edges).all();
        new ChosenEdges(edges).all();
        new FightEdges(edges).all();
        new RunEdges(edges).all();
        new LeadEdges(edges).all();
        new StatusEdges(edges).all();
        edges.cover("==== 1.", "## Not promised", "====", "The public face", "Ahead of the calls");
    }
}
