/** Every sentence of the document that names a boundary case, told with its promise, and tested at that boundary. */
public final class BoundariesTest extends Checks {
    public static void main(String[] args) {
        TextBoundaries.run();
        SheetBoundaries.run();
        LengthBoundaries.run();
        ReaderBoundaries.run();
        FieldBoundaries.run();
        FaceBoundaries.run();
        AgainBoundaries.run();
        finish(1, 43);
    }
}
