/**
 * Each sentence of the document that names a boundary, looked at from both sides (the classes under edges/).
 * The last check of all holds the sentences against the document: each must stand there, and none may be left out.
 */
public final class EdgesTest {
    public static void main(String[] args) throws Exception {
        NumberEdges.look();
        RefusalEdges.look();
        TapeEdges.look();
        LawEdges.look();
        JoinEdges.look();
        FactEdges.look();
        LineEdges.look();
        DoorEdges.look();
        PurseEdges.look();
        CallEdges.look();
        Edge.finish();
    }
}
