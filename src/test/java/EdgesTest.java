import java.io.IOException;
import java.nio.file.Path;

/**
 * The sentences of ../shared/DOC.md that name an edge (too small, too large, empty, full, a wrap-around, a refused call),
 * each with a test of its own that names it; and no such sentence is without one.
 */
public final class EdgesTest {
    public static void main(String[] args) throws IOException {
        Edges edges = new Edges(new Doc(Path.of("../shared/DOC.md")));
        EdgesOf[] parts = {new EdgesOfChildren(edges), new EdgesOfLaw(edges), new EdgesOfThought(edges), new EdgesOfComing(edges),
            new EdgesOfSheets(edges), new EdgesOfDeed(edges), new EdgesOfActs(edges), new EdgesOfShelves(edges)};
        for (EdgesOf part : parts) {
            part.all();
        }
        edges.end();
    }
}
