/** Every sentence of the document at its edges, quoted as the document has it. */
public final class EdgesTest {
    public static void main(String[] args) {
        LifeEdges.all();
        DescriptionEdges.all();
        ProbeEdges.all();
        PromiseEdges.all();
        RefusedEdges.all();
        Doc.everySentenceIsQuoted();
        Check.done("EdgesTest");
    }
}
