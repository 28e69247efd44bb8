/** Every sentence of the Description and of the promises at its edges, quoted as the document has it. */
public final class EdgesTest {
    public static void main(String[] args) {
        DescriptionEdges.all();
        ProbeEdges.all();
        PromiseEdges.all();
        RefusedEdges.all();
        Doc.everySentenceIsQuoted();
        Check.done("EdgesTest");
    }
}
