/** Each sentence of the document that names a bound, with a test of its own. */
public final class EdgesTest extends Kit {
    public static void main(String[] args) {
        TextEdges.all();
        CodeEdges.all();
        AirEdges.all();
        SearchEdges.all();
        ReadEdges.all();
        FollowEdges.all();
        endSentences();
        end();
    }
}
