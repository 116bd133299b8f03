/** TWO AHEAD: which way is the best, which of like ones comes first, and where there is none. Promises 18 and 19. */
public final class TwoBoundsTest {
    private static final int NONE = WheelAndWire.NONE;
    private static final int CUT = 100000, ALONG = 100;

    public static void main(String[] args) {
        fewestEdgesTogether();
        aPieceIsNothing();
        anyThatServes();
        piecesAheadOfCuts();
        theLeastPiece();
        theLeastPieceOfCuts();
        acrossAheadOfAlong();
        theLeastX();
        theOneAheadBeforeTheOneBehind();
        soldAheadOfTheSecond();
        noSuchWay();
        toServeAsAbove();
        near24Pieces();
        nothingIsCut();
        Check.end();
    }

    /** Both calls for one pair of asks, given as a, o, b, p, r. */
    private static void two(WheelAndWire x, int[] asks, int edges, int way) {
        String told = asks[0] + ", " + asks[1] + ", " + asks[2] + ", " + asks[3] + ", " + asks[4] + ")";
        Check.due("two(" + told, x.two(asks[0], asks[1], asks[2], asks[3], asks[4]), edges);
        Check.due("twoFirst(" + told, x.twoFirst(asks[0], asks[1], asks[2], asks[3], asks[4]), way);
    }

    private static int[] asks(int a, int o, int b, int p, int r) {
        return new int[] {a, o, b, p, r};
    }

    private static WheelAndWire row(String text, int... cuts) {
        WheelAndWire x = Check.made(text);
        for (int i = 0; i < cuts.length; i++) {
            Check.due("cut(" + i + ", false, " + cuts[i] + ")", x.cut(i, false, cuts[i]), i + 1);
        }
        return x;
    }

    private static void fewestEdgesTogether() {
        Check.says("the one with fewest EDGES CUT together");
        WheelAndWire x = Check.made("PPP/PPP");
        Check.due("next(20, 10, 0): 2 edges", x.next(20, 10, 0), ALONG + 10);
        two(x, asks(20, 10, 30, 0, 0), 3, CUT + 10);
        two(x, asks(20, 0, 40, 0, 0), 2, CUT + ALONG + 10);
        two(x, asks(20, 0, 20, 0, 0), 4, CUT + ALONG + 10);
        WheelAndWire y = row("PPPPPP", 2, 1);
        Check.due("weighs(1)", y.weighs(1), 10);
        two(y, asks(10, 10, 20, 0, 0), 0, 1);
        two(y, asks(10, 10, 10, 0, 0), 0, 0);
    }

    private static void aPieceIsNothing() {
        Check.says("(a PIECE: 0)");
        WheelAndWire x = row("PP", 1);
        two(x, asks(10, 0, 10, 0, 0), 0, 0);
        WheelAndWire y = row("PPP", 1);
        two(y, asks(10, 0, 20, 0, 0), 0, 0);
        two(y, asks(20, 0, 10, 0, 0), 0, 1);
        two(y, asks(10, 0, 10, 0, 0), 1, 0);
    }

    /** Piece 0 alone serves the second, so the first is cut of the other though piece 0 would serve it. */
    private static void anyThatServes() {
        Check.says("(as above: any that SERVES, any part)");
        WheelAndWire x = row("PPRRR", 2);
        Check.due("stands(8, 12, 3)", x.stands(8, 12, 3), 0);
        two(x, asks(8, 12, 20, 0, 3), 1, CUT + 1000 + ALONG + 10);
        WheelAndWire part = Check.made("PR");
        two(part, asks(8, 2, 10, 0, 1), 1, CUT + ALONG + 10 + 1);
        two(part, asks(8, 2, 8, 0, 1), 1, CUT + ALONG + 10);
    }

    private static void piecesAheadOfCuts() {
        Check.says("of like ones PIECES ahead of CUTS");
        WheelAndWire x = row("PPPPP", 3);
        two(x, asks(20, 0, 20, 0, 0), 1, 1);
    }

    private static void theLeastPiece() {
        Check.says("the least PIECE, across ahead of along, the least x, the part ahead before the one behind");
        WheelAndWire x = row("PPPPPP", 2, 1);
        Check.due("stands(10, 10, 0): the lightest", x.stands(10, 10, 0), 1);
        two(x, asks(10, 10, 30, 0, 0), 0, 0);
        WheelAndWire y = row("PPPP", 1, 1, 1);
        two(y, asks(10, 0, 10, 0, 0), 0, 0);
        y.sell(0, true);
        two(y, asks(10, 0, 10, 0, 0), 0, 1);
    }

    private static void theLeastPieceOfCuts() {
        Check.says("the least PIECE, across ahead of along, the least x, the part ahead before the one behind");
        WheelAndWire x = Check.made("PPP/PPP");
        x.cut(0, false, 2);
        x.cut(0, true, 1);
        two(x, asks(10, 0, 10, 0, 0), 1, CUT + ALONG + 10);
        x.sell(0, false);
        two(x, asks(10, 0, 10, 0, 0), 1, CUT + 1000 + 10);
        x.sell(1, false);
        two(x, asks(10, 0, 10, 0, 0), 1, CUT + 2000 + ALONG + 10);
    }

    private static void acrossAheadOfAlong() {
        Check.says("across ahead of along, the least x, the part ahead before the one behind");
        WheelAndWire x = Check.made("PP/PP");
        two(x, asks(20, 0, 20, 0, 0), 2, CUT + 10);
        two(x, asks(20, 0, 10, 0, 0), 3, CUT + 10);
        WheelAndWire y = Check.made("PRP/PPP/PPP");
        two(y, asks(30, 0, 30, 0, 0), 6, CUT + 20 + 1);
    }

    private static void theLeastX() {
        Check.says("the least x, the part ahead before the one behind");
        WheelAndWire x = Check.made("PPPP");
        two(x, asks(30, 0, 10, 0, 0), 1, CUT + ALONG + 10 + 1);
        two(x, asks(10, 10, 20, 10, 0), 1, CUT + ALONG + 10);
        two(x, asks(20, 10, 10, 10, 0), 1, CUT + ALONG + 10 + 1);
        WheelAndWire y = Check.made("P/P/P/P");
        two(y, asks(30, 0, 10, 0, 0), 1, CUT + 10 + 1);
        WheelAndWire six = Check.made("RRRRRP");
        two(six, asks(10, 0, 40, 0, 5), 1, CUT + ALONG + 50 + 1);
        two(six, asks(40, 0, 10, 0, 5), 1, CUT + ALONG + 50);
    }

    private static void theOneAheadBeforeTheOneBehind() {
        Check.says("the part ahead before the one behind");
        WheelAndWire x = Check.made("PP");
        two(x, asks(10, 0, 10, 0, 0), 1, CUT + ALONG + 10);
        WheelAndWire y = Check.made("PR");
        two(y, asks(8, 2, 8, 2, 1), 1, CUT + ALONG + 10);
        WheelAndWire z = Check.made("P/R");
        two(z, asks(8, 2, 8, 2, 1), 1, CUT + 10);
        two(z, asks(8, 0, 8, 2, 1), 1, CUT + 10 + 1);
    }

    private static void soldAheadOfTheSecond() {
        Check.says("(The first is SOLD ahead of the second.)");
        WheelAndWire x = Check.made("PP");
        two(x, asks(20, 0, 20, 0, 0), NONE, NONE);
        two(x, asks(20, 0, 10, 0, 0), NONE, NONE);
        two(x, asks(10, 0, 20, 0, 0), NONE, NONE);
        WheelAndWire y = row("PPP", 2);
        two(y, asks(10, 0, 10, 0, 0), 1, 1);
        two(y, asks(20, 0, 20, 0, 0), NONE, NONE);
    }

    private static void noSuchWay() {
        Check.says("NONE: there is no such way.");
        WheelAndWire x = Check.made("PPPP");
        two(x, asks(40, 0, 1, 99, 0), NONE, NONE);
        two(x, asks(15, 0, 10, 0, 0), NONE, NONE);
        two(x, asks(10, 0, 15, 0, 0), NONE, NONE);
        two(x, asks(10, 0, 31, 99, 0), NONE, NONE);
        two(x, asks(10, 0, 30, 0, 0), 1, CUT + ALONG + 10);
        two(Check.made("P"), asks(1, 99, 1, 99, 36), NONE, NONE);
        two(Check.made("AA"), asks(1, 99, 1, 99, 36), NONE, NONE);
        x.sell(0, false);
        two(x, asks(10, 0, 10, 0, 0), NONE, NONE);
    }

    /** The second may be cut of what the first left, or of another piece: by the shorter one. */
    private static void toServeAsAbove() {
        Check.says("and then the second TO SERVE (as above)");
        WheelAndWire x = Check.made("PPP");
        two(x, asks(10, 0, 10, 0, 0), 2, CUT + ALONG + 10);
        two(row("PPR", 1), asks(10, 0, 10, 0, 0), 1, 0);
        two(row("PRP", 1), asks(10, 0, 10, 0, 0), 1, 0);
        WheelAndWire y = Check.made("PPPP/PPPP/PPPP");
        y.cut(0, true, 1);
        two(y, asks(40, 0, 20, 0, 0), 2, 0);
        two(y, asks(20, 0, 40, 0, 0), 2, CUT + 1000 + ALONG + 10);
        two(y, asks(10, 0, 30, 0, 0), 1, CUT + ALONG + 10);
    }

    private static void near24Pieces() {
        Check.says("(No CUT, where 24 PIECES are.)");
        WheelAndWire x = PieceBoundsTest.manyPieces(22);
        two(x, asks(20, 0, 20, 0, 0), 2, CUT + 4000 + ALONG + 20);
        two(x, asks(50, 0, 50, 0, 0), 1, 21);
        two(x, asks(40, 0, 40, 0, 0), 2, CUT + 4000 + ALONG + 20 + 1);
        WheelAndWire y = PieceBoundsTest.manyPieces(23);
        two(y, asks(20, 0, 20, 0, 0), 1, CUT + 22000 + ALONG + 20);
        two(y, asks(50, 0, 50, 0, 0), NONE, NONE);
        two(y, asks(50, 0, 20, 0, 0), NONE, NONE);
        two(y, asks(50, 0, 10, 0, 0), 1, CUT + 4000 + ALONG + 10 + 1);
        two(y, asks(10, 0, 50, 0, 0), 1, 0);
        two(y, asks(40, 0, 40, 0, 0), 1, 22);
        WheelAndWire z = PieceBoundsTest.manyPieces(24);
        two(z, asks(20, 0, 10, 0, 0), NONE, NONE);
        two(z, asks(10, 0, 20, 0, 0), NONE, NONE);
        two(z, asks(10, 0, 10, 0, 0), 0, 0);
        two(z, asks(30, 0, 60, 0, 0), 0, 23);
        two(z, asks(60, 0, 60, 0, 0), 0, 4);
    }

    private static void nothingIsCut() {
        Check.says("TWO AHEAD: how many EDGES are CUT together; NONE.");
        WheelAndWire x = Check.made("PPPP");
        two(x, asks(10, 0, 10, 0, 0), 2, CUT + ALONG + 10);
        Check.due("count(0)", x.count(0), 1);
        Check.due("count(1)", x.count(1), 1);
        Check.due("about(0, 0)", x.about(0, 0), 14);
        Check.says("What the first is served by then: the PIECE, or 100000 and the CUT (as next()); NONE. BAD.");
        Check.due("next(10, 0, 0)", x.next(10, 0, 0), ALONG + 10);
        Check.due("twoFirst(10, 0, 10, 0, 0)", x.twoFirst(10, 0, 10, 0, 0), CUT + x.next(10, 0, 0));
    }
}
