import java.nio.file.Path;

/**
 * For each sentence of the document that names a boundary case a test of its own, by promises; and
 * that every sentence of the Terms and of the promises has one.
 */
public final class EdgesTest {
    public static void main(String[] args) {
        Edges e = new Edges(Path.of(args.length > 1 ? args[1] : "../shared/DOC.md"));
        new EdgesOfTerms(e).all();
        new EdgesOfText(e).all();
        new EdgesOfActs(e).all();
        new EdgesOfPaths(e).all();
        new EdgesOfPairs(e).all();
        new EdgesOfWaves(e).all();
        new EdgesOfSeen(e).all();
        new EdgesOfShares(e).all();
        new EdgesOfSlots(e).all();
        e.end();
    }
}
