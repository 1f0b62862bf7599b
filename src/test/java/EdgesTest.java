/** Each sentence of the document, and the boundary cases that it names. */
public final class EdgesTest extends Edges {
    private EdgesTest() { }

    /** A sentence that no test quotes has no test. */
    private static void allQuoted() {
        begin("the document", Counted.PROMISED);
        for (String name : DOC.toBeQuoted()) {
            for (String left : DOC.notQuoted(name)) {
                tell(name + ": no test is of \"" + left + "\"");
            }
        }
        due(58, DOC.toBeQuoted().size());
    }

    public static void main(String[] args) {
        EdgesOfTerms1.all();
        EdgesOfTerms2.all();
        EdgesOfTerms3.all();
        EdgesOfShelves.all();
        EdgesOfText.all();
        EdgesOfAsks.all();
        EdgesOfLists.all();
        EdgesBeside.all();
        allQuoted();
        close();
    }
}
