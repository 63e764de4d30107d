/** Each sentence of the document that names a boundary case, on the boundary and on both sides of it. */
public final class EdgesTest {
    public static void main(String[] args) {
        TextEdges.look();
        BodyEdges.look();
        WayEdges.look();
        ShoreEdges.look();
        Doc.isWhole();
        Check.ends("EdgesTest");
    }
}
