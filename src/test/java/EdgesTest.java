/** The document once more, sentence by sentence: each edge that it names, from both sides. */
public final class EdgesTest {
    public static void main(String[] args) {
        Document.open();
        EdgesOfBeginning.run();
        EdgesOfText.run();
        EdgesOfTerms.run();
        EdgesOfWorlds.run();
        EdgesOfKnowledge.run();
        EdgesOfActs.run();
        Document.end();
        Check.end();
    }
}
