/** Each sentence of the document that names a boundary, with a test of its own. */
public final class BoundariesTest {
    public static void main(String[] args) {
        OpenBoundaries.all();
        ScreenBoundaries.all();
        ProgramBoundaries.all();
        TickBoundaries.all();
        LetterBoundaries.all();
        TakingBoundaries.all();
        GuessBoundaries.all();
        Doc.everyPromiseIsHeld();
        Check.finish();
    }
}
