/** The tests that make forms once more, on objects that have had some 170 calls ahead: a form starts all of it anew. */
public final class WornTest {
    public static void main(String[] args) {
        Check.wearFromHereOn();
        FormTest.main(args);
        PiecesTest.main(args);
        AsksTest.main(args);
        WholeTest.main(args);
        BooksTest.main(args);
        SlotsTest.main(args);
        TextBoundsTest.main(args);
        PieceBoundsTest.main(args);
        AskBoundsTest.main(args);
        TwoBoundsTest.main(args);
        WholeBoundsTest.main(args);
        RipeBoundsTest.main(args);
        BookBoundsTest.main(args);
        SlotBoundsTest.main(args);
        PartitionTest.main(args);
    }
}
