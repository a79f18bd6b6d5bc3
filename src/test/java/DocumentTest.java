import java.io.IOException;

/** The document sentence by sentence, with the boundary cases that each of them names. */
public final class DocumentTest {
    public static void main(String[] args) throws IOException {
        Doc doc = new Doc();
        ObjectSentences.ask(doc);
        FoldSentences.ask(doc);
        RecipeSentences.ask(doc);
        ReckonSentences.ask(doc);
        FaultSentences.ask(doc);
        OpenedSentences.ask(doc);
        WantedSentences.ask(doc);
        SnipSentences.ask(doc);
        CountedSentences.ask(doc);
        SlipSentences.ask(doc);
        KeptSentences.ask(doc);
        RefusedSentences.ask(doc);
        AgainSentences.ask(doc);
        doc.end();
    }
}
