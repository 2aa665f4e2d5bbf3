import java.io.IOException;

/** For each sentence of the document that names a boundary a test of its own, and none left out. */
public final class EdgesTest {
    public static void main(String[] args) throws IOException {
        Sentences sentences = new Sentences();
        new EdgesOfTerms(sentences).all();
        new EdgesOfTasks(sentences).all();
        new EdgesOfOrders(sentences).all();
        new EdgesOfReturns(sentences).all();
        new EdgesOfTeams(sentences).all();
        sentences.end();
    }
}
