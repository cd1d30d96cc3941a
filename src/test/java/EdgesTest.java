import java.io.IOException;
import java.nio.file.Path;

/**
 * The sentences of ../shared/DOC.md that name an edge (too small, too large, empty, full, a wrap-around, a refused call),
 * each with a test of its own that names it; and no such sentence is without one.
 */
public final class EdgesTest {
    public static void main(String[] args) throws IOException {
        Edges edges = new Edges(new Doc(Path.of("../shared/DOC.md")));
        new EdgesOfChildren(edges).all();
        new EdgesOfLaw(edges).all();
        new EdgesOfThought(edges).all();
        new EdgesOfComing(edges).all();
        new EdgesOfSheets(edges).all();
        new EdgesOfDeed(edges).all();
        new EdgesOfActs(edges).all();
        new EdgesOfShelves(edges).all();
        edges.end();
    }
}
