/** Each sentence of the document that names a boundary case, with a test of its own. */
public final class BoundariesTest {
    private BoundariesTest() {
    }

    public static void main(String[] args) {
        TapeBoundaries.all();
        HillsBoundaries.all();
        DebtBoundaries.all();
        GameBoundaries.all();
        SongBoundaries.all();
        FullBoundaries.all();
        Boundary.end();
        Check.end("BoundariesTest");
    }
}
