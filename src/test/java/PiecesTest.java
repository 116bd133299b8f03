/** Promises 7 to 13: cut, about, weighs, pass, wrap, trim, sell. */
public final class PiecesTest {
    public static void main(String[] args) {
        cuttingAcrossAndAlong();
        cutsThatAreRefused();
        noMoreThan24();
        whatIsToldOfAPiece();
        dryingByWrapping();
        bareSidesDryByThemselves();
        driedIsSharedByEdges();
        offIsSharedByWeight();
        offOfPlacesThatWeighNothing();
        halfHours();
        wrapping();
        trimming();
        selling();
        Check.end();
    }

    private static void abouts(WheelAndWire x, int piece, int... due) {
        for (int what = 0; what < due.length; what++) {
            Check.due("about(" + piece + ", " + what + ")", x.about(piece, what), due[what]);
        }
    }

    private static void cuttingAcrossAndAlong() {
        WheelAndWire x = Check.made("PPRR/PPRR/AAPP");
        Check.due("cut(0, true, 2)", x.cut(0, true, 2), 1);
        Check.due("about(0, 0)", x.about(0, 0), 24);
        Check.due("about(1, 0)", x.about(1, 0), 2014);
        Check.due("cut(0, false, 3)", x.cut(0, false, 3), 2);
        Check.due("about(0, 0)", x.about(0, 0), 23);
        Check.due("about(2, 0)", x.about(2, 0), 321);
        Check.due("cut(1, false, 1)", x.cut(1, false, 1), 3);
        Check.due("about(1, 0)", x.about(1, 0), 2011);
        Check.due("about(3, 0)", x.about(3, 0), 2113);
        Check.due("weighs(0)", x.weighs(0), 56);
        Check.due("weighs(1)", x.weighs(1), 0);
        Check.due("weighs(2)", x.weighs(2), 16);
        Check.due("weighs(3)", x.weighs(3), 20);
        Check.due("weighs(4)", x.weighs(4), WheelAndWire.UNKNOWN);
        Check.due("weighs(-1)", x.weighs(-1), WheelAndWire.UNKNOWN);
    }

    private static void cutsThatAreRefused() {
        WheelAndWire x = Check.made("PP/PP/PP");
        int[] xs = {Integer.MIN_VALUE, -1, 0, 3, Integer.MAX_VALUE};
        for (int at : xs) {
            Check.due("cut(0, true, " + at + ")", x.cut(0, true, at), WheelAndWire.BAD);
        }
        Check.due("cut(0, false, 2)", x.cut(0, false, 2), WheelAndWire.BAD);
        Check.due("cut(1, true, 0)", x.cut(1, true, 0), WheelAndWire.UNKNOWN);
        Check.due("cut(-1, true, 1)", x.cut(-1, true, 1), WheelAndWire.UNKNOWN);
        Check.due("cut(max, true, 1)", x.cut(Integer.MAX_VALUE, true, 1), WheelAndWire.UNKNOWN);
        x.sell(0, true);
        Check.due("cut(0, true, 1)", x.cut(0, true, 1), WheelAndWire.UNKNOWN);
        Check.due("count(0)", x.count(0), 1);
    }

    private static void noMoreThan24() {
        WheelAndWire x = full();
        Check.due("count(0)", x.count(0), 24);
        Check.due("cut(4, false, 1)", x.cut(4, false, 1), WheelAndWire.FULL);
        Check.due("cut(4, false, 6)", x.cut(4, false, 6), WheelAndWire.BAD);
        Check.due("cut(24, false, 1)", x.cut(24, false, 1), WheelAndWire.UNKNOWN);
        x.sell(0, false);
        Check.due("cut(4, false, 1)", x.cut(4, false, 1), WheelAndWire.FULL);
        Check.due("cut(0, false, 1)", x.cut(0, false, 1), WheelAndWire.UNKNOWN);
        Check.due("count(0)", x.count(0), 24);
    }

    /** 24 pieces: rows 0 to 2 place by place, row 3 in four, and the rows 4 and 5 whole. */
    static WheelAndWire full() {
        WheelAndWire x = Check.made("PPPPPP/PPPPPP/PPPPPP/PPPPPP/PPPPPP/PPPPPP");
        for (int row = 0; row < 5; row++) {
            Check.due("cut(row, true, 1)", x.cut(row, true, 1), row + 1);
        }
        int next = 6;
        for (int row = 0; row < 4; row++) {
            int from = row;
            for (int i = 0; i < 5 && next < 24; i++) {
                Check.due("cut(.., false, 1)", x.cut(from, false, 1), next);
                from = next++;
            }
        }
        return x;
    }

    private static void whatIsToldOfAPiece() {
        WheelAndWire x = Check.made("RRRR/RPAR/RRRR");
        abouts(x, 0, 34, 0, 10, 0, 0, 0, 0, 1);
        x.cut(0, true, 1);
        x.cut(1, true, 1);
        x.cut(1, false, 1);
        x.cut(3, false, 2);
        x.pass(2);
        x.wrap(0, 1);
        abouts(x, 0, 14, 0, 4, 4, 80, 0, 1, 1);
        abouts(x, 1, 1011, 0, 1, 3, 60, 0, 0, 0);
        abouts(x, 2, 2014, 0, 4, 4, 80, 0, 0, 1);
        abouts(x, 3, 1112, 0, 0, 6, 120, 0, 0, 0);
        abouts(x, 4, 1311, 0, 1, 3, 60, 0, 0, 0);
        x.sell(1, false);
        x.sell(4, true);
        x.pass(5);
        abouts(x, 1, 1011, 1, 1, 3, 60, 0, 0, 0);
        abouts(x, 4, 1311, 2, 1, 3, 60, 0, 0, 0);
        abouts(x, 0, 14, 0, 4, 4, 180, 0, 1, 1);
        Check.due("about(0, 8)", x.about(0, 8), WheelAndWire.BAD);
        Check.due("about(0, -1)", x.about(0, -1), WheelAndWire.BAD);
        Check.due("about(5, 8)", x.about(5, 8), WheelAndWire.UNKNOWN);
        Check.due("about(-1, 0)", x.about(-1, 0), WheelAndWire.UNKNOWN);
        Check.due("about(max, 0)", x.about(Integer.MAX_VALUE, 0), WheelAndWire.UNKNOWN);
    }

    private static void dryingByWrapping() {
        WheelAndWire x = Check.made("PPP/PPP/PPP");
        x.cut(0, true, 1);
        x.cut(1, true, 1);
        x.wrap(1, 1);
        x.wrap(2, 2);
        x.pass(1);
        Check.due("about(0, 4)", x.about(0, 4), 30);
        Check.due("about(1, 4)", x.about(1, 4), 30);
        Check.due("about(2, 4)", x.about(2, 4), 6);
        Check.due("weighs(0)", x.weighs(0), 30);
        x.pass(1);
        Check.due("weighs(0)", x.weighs(0), 29);
        Check.due("weighs(1)", x.weighs(1), 29);
        Check.due("weighs(2)", x.weighs(2), 30);
        x.cut(2, false, 1);
        Check.due("about(3, 6)", x.about(3, 6), 2);
    }

    private static void bareSidesDryByThemselves() {
        WheelAndWire x = Check.made("PP/PP/PP");
        x.cut(0, true, 1);
        x.cut(1, true, 1);
        x.wrap(1, 1);
        x.pass(3);
        Check.due("about(1, 4): 15 for each of 4 edges", x.about(1, 4), 60);
        Check.due("weighs(1): together, not each side by 40", x.weighs(1), 19);
    }

    private static void driedIsSharedByEdges() {
        WheelAndWire x = Check.made("PPP/PPP/PPP/PPP/PPP");
        x.cut(0, false, 1);
        x.cut(1, true, 1);
        x.wrap(1, 2);
        x.pass(1);
        Check.due("about(1, 4): left 2, below 4", x.about(1, 4), 6);
        Check.due("about(2, 4): left 40, above 20", x.about(2, 4), 60);
        Check.due("cut(2, true, 1)", x.cut(2, true, 1), 3);
        Check.due("about(2, 4): left 10, above 20", x.about(2, 4), 30);
        Check.due("about(3, 4): left 30", x.about(3, 4), 30);
        Check.due("cut(3, false, 1)", x.cut(3, false, 1), 4);
        Check.due("about(3, 4): left goes ahead whole", x.about(3, 4), 30);
        Check.due("about(4, 4)", x.about(4, 4), 0);
        x.wrap(2, 1);
        x.pass(1);
        Check.due("about(2, 4): left 15, above 30, below 10", x.about(2, 4), 55);
        Check.due("cut(2, false, 1)", x.cut(2, false, 1), 5);
        Check.due("about(2, 4): left 15, above 15, below 5", x.about(2, 4), 35);
        Check.due("about(5, 4): above 15, below 5", x.about(5, 4), 20);
        sharesByAnotherWrapping();
    }

    private static void sharesByAnotherWrapping() {
        WheelAndWire x = Check.made("PPP/PPP");
        x.cut(0, true, 1);
        x.wrap(0, 2);
        x.pass(1);
        x.cut(0, false, 2);
        Check.due("about(0, 4)", x.about(0, 4), 4);
        x.pass(1);
        Check.due("about(0, 4): below 8, right 2", x.about(0, 4), 10);
        x.wrap(0, 1);
        x.pass(1);
        Check.due("about(0, 4): below 18, right 7", x.about(0, 4), 25);
        x.cut(1, false, 1);
        Check.due("about(1, 4)", x.about(1, 4), 30);
        Check.due("about(3, 4)", x.about(3, 4), 60);
        WheelAndWire y = Check.made("PPP/PPP");
        y.cut(0, true, 1);
        y.wrap(1, 1);
        y.pass(1);
        y.cut(1, false, 1);
        y.wrap(2, 2);
        y.pass(1);
        Check.due("about(2, 4): above 10 and 4, left 2", y.about(2, 4), 16);
        y.wrap(1, 2);
        Check.due("about(1, 4): above 5 and 5, right 5", y.about(1, 4), 15);
    }

    private static void offIsSharedByWeight() {
        WheelAndWire x = Check.made("PRA/PPP");
        x.cut(0, true, 1);
        x.pass(4);
        Check.due("trim(0): 120 dried, 3 edges", x.trim(0), 3);
        Check.due("about(0, 5)", x.about(0, 5), 6);
        Check.due("weighs(0)", x.weighs(0), 12);
        Check.due("cut(0, false, 1)", x.cut(0, false, 1), 2);
        Check.due("about(0, 5): 60 by 18", x.about(0, 5), 3);
        Check.due("about(2, 5)", x.about(2, 5), 3);
        Check.due("cut(2, false, 1)", x.cut(2, false, 1), 3);
        Check.due("about(2, 5): all that weighs is ahead", x.about(2, 5), 3);
        Check.due("about(3, 5)", x.about(3, 5), 0);
    }

    private static void offOfPlacesThatWeighNothing() {
        WheelAndWire x = Check.made("AA/PP");
        x.cut(0, true, 1);
        x.trim(0);
        Check.due("about(0, 5)", x.about(0, 5), 2);
        x.cut(0, false, 1);
        Check.due("about(0, 5)", x.about(0, 5), 0);
        Check.due("about(2, 5)", x.about(2, 5), 2);
    }

    private static void halfHours() {
        WheelAndWire x = Check.made("P/P");
        int[] refused = {Integer.MIN_VALUE, -1, 0, 1000, Integer.MAX_VALUE};
        for (int halfHours : refused) {
            Check.due("pass(" + halfHours + ")", x.pass(halfHours), WheelAndWire.BAD);
        }
        for (int i = 1; i <= 10; i++) {
            Check.due("pass(999)", x.pass(999), 999 * i);
        }
        Check.due("pass(10)", x.pass(10), WheelAndWire.BAD);
        Check.due("count(2)", x.count(2), 9990);
        Check.due("pass(9)", x.pass(9), 9999);
        Check.due("pass(1)", x.pass(1), WheelAndWire.BAD);
        Check.due("about(0, 4): no bare side", x.about(0, 4), 0);
        Check.due("weighs(0)", x.weighs(0), 20);
    }

    private static void wrapping() {
        WheelAndWire x = Check.made("P/P");
        Check.due("wrap(0, 2)", x.wrap(0, 2), 0);
        Check.due("wrap(0, 1)", x.wrap(0, 1), 2);
        Check.due("wrap(0, 0)", x.wrap(0, 0), 1);
        Check.due("wrap(0, 3)", x.wrap(0, 3), WheelAndWire.BAD);
        Check.due("wrap(0, -1)", x.wrap(0, -1), WheelAndWire.BAD);
        Check.due("wrap(1, 3)", x.wrap(1, 3), WheelAndWire.UNKNOWN);
        Check.due("wrap(-1, 0)", x.wrap(-1, 0), WheelAndWire.UNKNOWN);
        Check.due("about(0, 6)", x.about(0, 6), 0);
        x.wrap(0, 1);
        x.cut(0, true, 1);
        Check.due("about(1, 6)", x.about(1, 6), 1);
        x.sell(1, true);
        Check.due("wrap(1, 0)", x.wrap(1, 0), WheelAndWire.UNKNOWN);
        Check.due("about(1, 6)", x.about(1, 6), 1);
    }

    private static void trimming() {
        WheelAndWire x = Check.made("PP/PP");
        Check.due("trim(0): no bare side", x.trim(0), 0);
        x.cut(0, true, 1);
        x.pass(5);
        Check.due("weighs(0): 100 dried", x.weighs(0), 18);
        Check.due("trim(0): 2 edges more", x.trim(0), 2);
        Check.due("about(0, 4)", x.about(0, 4), 0);
        Check.due("about(0, 5)", x.about(0, 5), 4);
        Check.due("weighs(0)", x.weighs(0), 16);
        x.pass(25);
        Check.due("weighs(0)", x.weighs(0), 4);
        x.pass(5);
        Check.due("weighs(0): 600 dried", x.weighs(0), 1);
        Check.due("trim(0): no less than 0", x.trim(0), 1);
        Check.due("about(0, 5)", x.about(0, 5), 21);
        Check.due("trim(2)", x.trim(2), WheelAndWire.UNKNOWN);
        Check.due("trim(-1)", x.trim(-1), WheelAndWire.UNKNOWN);
        x.sell(0, false);
        Check.due("trim(0)", x.trim(0), WheelAndWire.UNKNOWN);
        Check.due("about(0, 5)", x.about(0, 5), 21);
    }

    private static void selling() {
        WheelAndWire x = Check.made("PP/RP");
        x.cut(0, true, 1);
        x.pass(4);
        Check.due("sell(1, false)", x.sell(1, false), 16);
        Check.due("about(1, 1)", x.about(1, 1), 1);
        Check.due("sell(1, true)", x.sell(1, true), WheelAndWire.UNKNOWN);
        Check.due("about(1, 1)", x.about(1, 1), 1);
        Check.due("sell(0, true)", x.sell(0, true), 18);
        Check.due("about(0, 1)", x.about(0, 1), 2);
        Check.due("sell(2, true)", x.sell(2, true), WheelAndWire.UNKNOWN);
        Check.due("sell(-1, true)", x.sell(-1, true), WheelAndWire.UNKNOWN);
        Check.due("count(1)", x.count(1), 0);
        Check.due("weighs(0)", x.weighs(0), 18);
        x.pass(400);
        Check.due("weighs(0)", x.weighs(0), 18);
    }
}
