import java.io.IOException;

/**
 * Each sentence of the document has a test of its own that names it: what is within its bounds and what is just
 * beyond. The second argument is the document's path; a sentence that no test names fails here.
 */
public final class EdgesTest {
    public static void main(String[] args) throws IOException {
        Edge.open(args.length > 1 ? args[1] : "../shared/DOC.md");
        EdgesOfText.all();
        EdgesOfLevels.all();
        EdgesOfTime.all();
        EdgesOfAsking.all();
        EdgesOfPast.all();
        EdgesOfRefusals.all();
        Edge.close();
        Check.end("EdgesTest");
    }
}
