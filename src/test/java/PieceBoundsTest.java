/** Where PIECES, CUTS, drying and OFF end: the document's second section and promises 7 to 13, sentence by sentence. */
public final class PieceBoundsTest {
    private static final int BAD = WheelAndWire.BAD, UNKNOWN = WheelAndWire.UNKNOWN, FULL = WheelAndWire.FULL;
    private static final int NONE = WheelAndWire.NONE;
    private static final int MIN = Integer.MIN_VALUE, MAX = Integer.MAX_VALUE;
    private static final int SIDE = 6;

    public static void main(String[] args) {
        pieces24AtMost();
        soldOnesCountAmong24();
        piece0IsAllOfIt();
        whereACutMayGo();
        whereAPieceOfSomeMayBeCut();
        aheadKeepsItsNumber();
        onlyWhatStands();
        bareSides();
        edgesOfAir();
        halfHours0AtFirst();
        dryingByWrapping();
        eachBareSideByItself();
        openAtFirst();
        lessOneForEach40();
        dried40Together();
        weighs0AtLeast();
        sidesOnBothAreShared();
        sidesOnOneGoOn();
        offSharedByWeight();
        offAllBehind();
        trimmedBy40AndEdges();
        trimmedWeighsLess();
        whatIsToldOfAPiece();
        rindAndWeightOfEachBlock();
        anyPieceWeighs();
        halfHours1To999();
        halfHours9999();
        wrappings();
        soldOrTasted();
        Check.end();
    }

    private static void dried(WheelAndWire x, int piece, int due) {
        Check.due("about(" + piece + ", 4)", x.about(piece, 4), due);
    }

    private static void off(WheelAndWire x, int piece, int due) {
        Check.due("about(" + piece + ", 5)", x.about(piece, 5), due);
    }

    private static void weighs(WheelAndWire x, int piece, int due) {
        Check.due("weighs(" + piece + ")", x.weighs(piece), due);
    }

    /** Two pieces, one above the other, with a bare side between them. */
    private static WheelAndWire halved(String text) {
        WheelAndWire x = Check.made(text);
        Check.due("cut(0, true, 1)", x.cut(0, true, 1), 1);
        return x;
    }

    /** The rows of a form of 36, cut place by place from above until there are so many pieces. */
    static WheelAndWire manyPieces(int pieces) {
        WheelAndWire x = Check.made("PPPPPP/PPPPPP/PPPPPP/PPPPPP/PPPPPP/PPPPPP");
        for (int row = 0; row < SIDE - 1; row++) {
            Check.due("cut(" + row + ", true, 1)", x.cut(row, true, 1), row + 1);
        }
        int from = 0;
        for (int next = SIDE; next < pieces; next++) {
            if ((next - SIDE) % (SIDE - 1) == 0) {
                from = (next - SIDE) / (SIDE - 1);
            }
            Check.due("cut(" + from + ", false, 1)", x.cut(from, false, 1), next);
            from = next;
        }
        Check.due("count(0)", x.count(0), pieces);
        return x;
    }

    private static void pieces24AtMost() {
        Check.says("PIECES 0, 1, .. (24 at most) are BLOCKS");
        WheelAndWire x = manyPieces(23);
        Check.due("cut(5, false, 3): the 24th", x.cut(5, false, 3), 23);
        Check.due("count(0)", x.count(0), 24);
        Check.says("UNKNOWN: piece; BAD: x; FULL: 24.");
        Check.due("cut(5, false, 1): a 25th", x.cut(5, false, 1), FULL);
        Check.due("cut(23, false, 2): a 25th", x.cut(23, false, 2), FULL);
        Check.due("count(0)", x.count(0), 24);
        Check.due("about(5, 0): as it was", x.about(5, 0), 5013);
        Check.due("about(23, 0): as it was", x.about(23, 0), 5313);
        Check.due("about(24, 0)", x.about(24, 0), UNKNOWN);
        Check.due("cut(5, false, 3): BAD ahead of FULL", x.cut(5, false, 3), BAD);
        Check.due("cut(5, false, 0): BAD ahead of FULL", x.cut(5, false, 0), BAD);
        Check.due("cut(5, true, 1): BAD ahead of FULL", x.cut(5, true, 1), BAD);
        Check.due("cut(24, false, 1): UNKNOWN ahead of FULL", x.cut(24, false, 1), UNKNOWN);
        Check.due("cut(24, false, 0): UNKNOWN ahead of BAD and FULL", x.cut(24, false, 0), UNKNOWN);
        Check.due("cut(-1, false, 0): UNKNOWN ahead of BAD and FULL", x.cut(-1, false, 0), UNKNOWN);
    }

    private static void soldOnesCountAmong24() {
        Check.says("A PIECE STANDS, or it is SOLD, or TASTED.");
        WheelAndWire x = manyPieces(24);
        x.sell(0, false);
        x.sell(1, true);
        Check.due("cut(5, false, 1)", x.cut(5, false, 1), FULL);
        Check.due("count(0)", x.count(0), 24);
        Check.due("count(1)", x.count(1), 22);
        Check.due("form(): there is room again", x.form(), 36);
        Check.due("cut(0, true, 1)", x.cut(0, true, 1), 1);
    }

    private static void piece0IsAllOfIt() {
        Check.says("at first, and when the FORM is made anew, PIECE 0 is all of it");
        WheelAndWire x = new WheelAndWire();
        Check.due("about(0, 0)", x.about(0, 0), 11);
        Check.due("about(1, 0)", x.about(1, 0), UNKNOWN);
        Check.put(x, "PP/RR");
        x.form();
        x.cut(0, false, 1);
        x.wrap(0, 2);
        x.pass(50);
        x.trim(0);
        x.sell(0, true);
        x.form();
        int[] due = {22, 0, 2, 0, 0, 0, 0, 1};
        for (int what = 0; what < due.length; what++) {
            Check.due("about(0, " + what + ")", x.about(0, what), due[what]);
        }
        weighs(x, 0, 36);
        Check.due("about(1, 0)", x.about(1, 0), UNKNOWN);
        Check.due("count(1)", x.count(1), 1);
        for (int along = 0; along < 2; along++) {
            x.form();
            x.cut(0, along == 0, 1);
            x.pass(50);
            x.form();
            dried(x, 0, 0);
            weighs(x, 0, 36);
        }
        whatIsGoneIsNotThere();
    }

    /** A row of four was cut off and is gone with the form made anew, or with what was kept: nothing is cut of it. */
    private static void whatIsGoneIsNotThere() {
        WheelAndWire x = Check.made("PPPP/PPPP");
        x.keep(0);
        for (int how = 0; how < 2; how++) {
            x.cut(0, true, 1);
            Check.due("next(30, 0, 0): of a row", x.next(30, 0, 0), 111);
            x.wrap(1, 2);
            if (how == 0) {
                x.again(0);
            } else {
                x.form();
            }
            Check.due("next(30, 0, 0)", x.next(30, 0, 0), NONE);
            Check.due("serve(30, 0, 0)", x.serve(30, 0, 0), NONE);
            Check.due("stands(40, 0, 0)", x.stands(40, 0, 0), NONE);
            Check.due("two(30, 0, 10, 0, 0)", x.two(30, 0, 10, 0, 0), NONE);
            Check.due("twoFirst(10, 0, 30, 0, 0)", x.twoFirst(10, 0, 30, 0, 0), NONE);
            Check.due("weighs(1)", x.weighs(1), UNKNOWN);
            Check.due("cut(1, false, 1)", x.cut(1, false, 1), UNKNOWN);
            Check.due("worth()", x.worth(), 80);
            Check.due("cut(0, true, 1)", x.cut(0, true, 1), 1);
            Check.due("about(1, 6): a new one", x.about(1, 6), 0);
            x.form();
        }
    }

    private static void whereACutMayGo() {
        Check.says("x 1 and more, fewer than it has");
        for (int has = 1; has <= SIDE; has++) {
            int[] cuts = {MIN, -1, 0, 1, 2, has - 1, has, has + 1, MAX};
            for (int at : cuts) {
                int due = at >= 1 && at < has ? 1 : BAD;
                WheelAndWire tall = Check.made("P" + "/P".repeat(has - 1));
                Check.due("cut(0, true, " + at + ") of " + has, tall.cut(0, true, at), due);
                Check.due("count(0)", tall.count(0), due == 1 ? 2 : 1);
                WheelAndWire wide = Check.made("P".repeat(has));
                Check.due("cut(0, false, " + at + ") of " + has, wide.cut(0, false, at), due);
                Check.due("count(0)", wide.count(0), due == 1 ? 2 : 1);
            }
        }
        Check.says("across (behind its first x ROWS) or along (behind its first x COLUMNS)");
        WheelAndWire x = Check.made("PPP/PPP");
        Check.due("cut(0, true, 2): it has 2 rows", x.cut(0, true, 2), BAD);
        Check.due("cut(0, false, 2): it has 3 columns", x.cut(0, false, 2), 1);
    }

    /** How much the piece has counts, not how much the form has, nor where the piece lies. */
    private static void whereAPieceOfSomeMayBeCut() {
        Check.says("fewer than it has");
        String six = "PPPPPP/PPPPPP/PPPPPP/PPPPPP/PPPPPP/PPPPPP";
        for (int has = 1; has < SIDE; has++) {
            for (int at = 0; at <= SIDE; at++) {
                int due = at >= 1 && at < has ? 2 : BAD;
                for (int along = 0; along < 2; along++) {
                    WheelAndWire ahead = Check.made(six);
                    ahead.cut(0, along == 0, has);
                    Check.due("cut(0, .., " + at + ") of " + has + " ahead", ahead.cut(0, along == 0, at), due);
                    WheelAndWire behind = Check.made(six);
                    behind.cut(0, along == 0, SIDE - has);
                    Check.due("cut(1, .., " + at + ") of " + has + " behind", behind.cut(1, along == 0, at), due);
                }
            }
        }
    }

    private static void aheadKeepsItsNumber() {
        Check.says("A CUT (across or along): the number of the new PIECE.");
        WheelAndWire two = Check.made("PP/PP");
        Check.due("cut(0, true, 1)", two.cut(0, true, 1), 1);
        Check.due("cut(0, false, 1)", two.cut(0, false, 1), 2);
        Check.due("cut(1, false, 1)", two.cut(1, false, 1), 3);
        Check.says("what is ahead keeps its number, the rest is a new PIECE");
        for (int at = 1; at < SIDE; at++) {
            WheelAndWire x = Check.made("PPPPPP/PPPPPP/PPPPPP/PPPPPP/PPPPPP/PPPPPP");
            Check.due("cut(0, true, " + at + ")", x.cut(0, true, at), 1);
            Check.due("about(0, 0)", x.about(0, 0), 10 * at + 6);
            Check.due("about(1, 0)", x.about(1, 0), 1000 * at + 10 * (6 - at) + 6);
            Check.due("cut(0, false, " + at + ")", x.cut(0, false, at), 2);
            Check.due("about(0, 0)", x.about(0, 0), 10 * at + at);
            Check.due("about(2, 0)", x.about(2, 0), 100 * at + 10 * at + 6 - at);
            Check.due("cut(1, false, " + at + ")", x.cut(1, false, at), 3);
            Check.due("about(1, 0)", x.about(1, 0), 1000 * at + 10 * (6 - at) + at);
            Check.due("about(3, 0)", x.about(3, 0), 1000 * at + 100 * at + 10 * (6 - at) + 6 - at);
        }
    }

    private static void onlyWhatStands() {
        Check.says("a PIECE that is asked to be CUT, wrapped, TRIMMED, SOLD, TASTED does not STAND");
        for (int how = 0; how < 2; how++) {
            WheelAndWire x = halved("PP/PP");
            x.pass(3);
            x.sell(0, how == 1);
            Check.due("cut(0, false, 1)", x.cut(0, false, 1), UNKNOWN);
            Check.due("wrap(0, 1)", x.wrap(0, 1), UNKNOWN);
            Check.due("trim(0)", x.trim(0), UNKNOWN);
            Check.due("sell(0, false)", x.sell(0, false), UNKNOWN);
            Check.due("sell(0, true)", x.sell(0, true), UNKNOWN);
            Check.due("cut(0, false, 0): ahead of BAD", x.cut(0, false, 0), UNKNOWN);
            Check.due("wrap(0, 3): ahead of BAD", x.wrap(0, 3), UNKNOWN);
            int[] due = {12, 1 + how, 0, 2, 60, 0, 0, 1};
            for (int what = 0; what < due.length; what++) {
                Check.due("about(0, " + what + ")", x.about(0, what), due[what]);
            }
            Check.due("count(0)", x.count(0), 2);
        }
        Check.says("there is no such PIECE");
        WheelAndWire x = halved("PP/PP");
        int[] none = {MIN, -1, 2, 24, MAX};
        for (int piece : none) {
            Check.due("cut(" + piece + ", false, 1)", x.cut(piece, false, 1), UNKNOWN);
            Check.due("wrap(" + piece + ", 1)", x.wrap(piece, 1), UNKNOWN);
            Check.due("trim(" + piece + ")", x.trim(piece), UNKNOWN);
            Check.due("sell(" + piece + ", true)", x.sell(piece, true), UNKNOWN);
        }
        Check.due("count(1)", x.count(1), 2);
    }

    private static void bareSides() {
        Check.says("is a BARE one, if it is not the rim of the FORM");
        WheelAndWire rows = Check.made("PPP/PPP/PPP");
        Check.due("about(0, 3) of all of it", rows.about(0, 3), 0);
        rows.cut(0, true, 1);
        rows.cut(1, true, 1);
        Check.due("about(0, 3): below", rows.about(0, 3), 3);
        Check.due("about(1, 3): above, below", rows.about(1, 3), 6);
        Check.due("about(2, 3): above", rows.about(2, 3), 3);
        WheelAndWire x = nine();
        for (int piece = 0; piece < 9; piece++) {
            int block = x.about(piece, 0);
            int sides = (block / 1000 == 1 ? 2 : 1) + (block / 100 % 10 == 1 ? 2 : 1);
            Check.due("about(" + piece + ", 3) of block " + block, x.about(piece, 3), sides);
        }
        WheelAndWire y = Check.made("PPP/PPP");
        y.cut(0, false, 1);
        y.cut(1, false, 1);
        Check.due("about(0, 3): right", y.about(0, 3), 2);
        Check.due("about(1, 3): left, right", y.about(1, 3), 4);
        Check.due("about(2, 3): left", y.about(2, 3), 2);
    }

    private static void edgesOfAir() {
        Check.says("it has as many EDGES as PLACES lie along it (air, too)");
        WheelAndWire x = halved("AAA/APA");
        Check.due("about(0, 3)", x.about(0, 3), 3);
        Check.due("about(1, 3)", x.about(1, 3), 3);
        x.pass(1);
        dried(x, 0, 30);
        dried(x, 1, 30);
        x.cut(1, false, 2);
        Check.due("about(1, 3): above, right", x.about(1, 3), 3);
        Check.due("about(2, 3): above, left", x.about(2, 3), 2);
    }

    private static void halfHours0AtFirst() {
        Check.says("HALF HOURS go by (0 at first)");
        WheelAndWire x = halved("P/P");
        Check.due("count(2)", x.count(2), 0);
        dried(x, 0, 0);
        Check.due("pass(1)", x.pass(1), 1);
        Check.due("count(2)", x.count(2), 1);
        dried(x, 0, 10);
    }

    private static void dryingByWrapping() {
        Check.says("DRIES by 10 a HALF HOUR open, 5 in paper, 2 in wax");
        int[] each = {10, 5, 2};
        for (int how = 0; how < 3; how++) {
            WheelAndWire x = halved("PPP/PPP");
            x.wrap(1, how);
            x.pass(1);
            dried(x, 0, 30);
            dried(x, 1, 3 * each[how]);
            x.pass(7);
            dried(x, 1, 24 * each[how]);
        }
        Check.says("each EDGE of a BARE SIDE of a PIECE that STANDS DRIES");
        WheelAndWire x = Check.made("PPP/PPP");
        x.pass(99);
        dried(x, 0, 0);
        x.cut(0, true, 1);
        x.pass(1);
        x.sell(0, false);
        x.sell(1, true);
        x.pass(1);
        dried(x, 0, 30);
        dried(x, 1, 30);
    }

    private static void eachBareSideByItself() {
        Check.says("each BARE SIDE counts by itself");
        WheelAndWire x = Check.made("PPP/PPP/PPP");
        x.cut(0, true, 1);
        x.cut(1, true, 1);
        x.cut(1, false, 1);
        x.cut(3, false, 1);
        Check.due("about(3, 0): the one in the middle", x.about(3, 0), 1111);
        x.pass(1);
        dried(x, 3, 40);
        weighs(x, 3, 9);
        dried(x, 1, 30);
        weighs(x, 1, 10);
    }

    private static void openAtFirst() {
        Check.says("open at first; a new one as the one that it was CUT of");
        WheelAndWire x = Check.made("PPPP");
        Check.due("about(0, 6)", x.about(0, 6), 0);
        x.cut(0, false, 3);
        Check.due("about(1, 6)", x.about(1, 6), 0);
        x.wrap(0, 2);
        x.cut(0, false, 2);
        Check.due("about(0, 6)", x.about(0, 6), 2);
        Check.due("about(2, 6)", x.about(2, 6), 2);
        Check.due("about(1, 6)", x.about(1, 6), 0);
        x.wrap(0, 1);
        x.cut(0, false, 1);
        Check.due("about(3, 6)", x.about(3, 6), 1);
        Check.due("about(2, 6)", x.about(2, 6), 2);
    }

    /** A half hour in paper makes 5 of an edge, so that wax makes odd numbers. */
    private static WheelAndWire driedOnce(int amount) {
        WheelAndWire x = halved("P/P");
        int rest = amount;
        if (rest % 2 == 1) {
            x.wrap(0, 1);
            x.pass(1);
            rest -= 5;
        }
        x.wrap(0, 2);
        if (rest > 0) {
            x.pass(rest / 2);
        }
        dried(x, 0, amount);
        return x;
    }

    private static void lessOneForEach40() {
        Check.says("less 1 for each 40 that its BARE SIDES DRIED together (cut)");
        int[][] due = {{0, 10}, {2, 10}, {38, 10}, {39, 10}, {40, 9}, {41, 9}, {79, 9}, {80, 8}, {81, 8}, {119, 8}, {120, 7},
            {359, 2}, {360, 1}, {399, 1}, {400, 0}};
        for (int[] k : due) {
            Check.due("weighs(0), dried " + k[0], driedOnce(k[0]).weighs(0), k[1]);
        }
    }

    private static void dried40Together() {
        Check.says("that its BARE SIDES DRIED together (cut)");
        WheelAndWire x = Check.made("P/P/P");
        x.cut(0, true, 1);
        x.cut(1, true, 1);
        x.wrap(1, 1);
        x.pass(3);
        dried(x, 1, 30);
        weighs(x, 1, 10);
        x.pass(1);
        dried(x, 1, 40);
        weighs(x, 1, 9);
    }

    private static void weighs0AtLeast() {
        Check.says("less what is OFF; 0 at least");
        WheelAndWire x = halved("P/P");
        x.pass(39);
        weighs(x, 0, 1);
        x.pass(1);
        weighs(x, 0, 0);
        x.pass(3);
        weighs(x, 0, 0);
        x.pass(1);
        dried(x, 0, 440);
        weighs(x, 0, 0);
        Check.due("trim(0)", x.trim(0), 0);
        off(x, 0, 12);
        dried(x, 0, 0);
        weighs(x, 0, 0);
        Check.due("trim(0)", x.trim(0), 0);
        off(x, 0, 13);
        Check.due("worth(): none weighs less than 0", x.worth(), 0);
        Check.due("sell(0, false)", x.sell(0, false), 0);
        WheelAndWire y = halved("A/P");
        y.pass(4);
        weighs(y, 0, 0);
        weighs(y, 1, 9);
        for (int i = 9; i > 0; i--) {
            Check.due("trim(1)", y.trim(1), 1);
            weighs(y, 1, i - 1);
        }
        Check.due("trim(1) of what weighs nothing", y.trim(1), 0);
    }

    private static void sidesOnBothAreShared() {
        Check.says("what one that goes along both DRIED is shared by EDGES");
        WheelAndWire x = Check.made("PPP/PPP/PPP");
        x.cut(0, false, 1);
        x.pass(1);
        dried(x, 1, 30);
        Check.due("cut(1, true, 1)", x.cut(1, true, 1), 2);
        dried(x, 1, 10);
        dried(x, 2, 20);
        Check.due("cut(0, true, 1): its right side", x.cut(0, true, 1), 3);
        dried(x, 0, 10);
        dried(x, 3, 20);
        Check.says("the new BARE SIDES DRIED 0");
        x.pass(1);
        dried(x, 1, 20 + 20);
        dried(x, 2, 40 + 20);
        dried(x, 0, 20 + 10);
        dried(x, 3, 40 + 10);
        Check.due("cut(2, false, 1)", x.cut(2, false, 1), 4);
        dried(x, 2, 40 + 10);
        dried(x, 4, 10);
        Check.due("cut(2, true, 1)", x.cut(2, true, 1), 5);
        dried(x, 2, 20 + 10);
        dried(x, 5, 20);
        Check.says("(ahead: that times its EDGES by all, cut; the rest behind)");
        for (int at = 1; at < SIDE; at++) {
            WheelAndWire row = Check.made("PPPPPP/PPPPPP/PPPPPP");
            row.cut(0, true, 1);
            row.cut(1, true, 1);
            row.wrap(1, 2);
            row.pass(1);
            dried(row, 1, 24);
            row.cut(1, false, at);
            dried(row, 1, 4 * at);
            dried(row, 3, 24 - 4 * at);
            WheelAndWire column = Check.made("PPP/PPP/PPP/PPP/PPP/PPP");
            column.cut(0, false, 1);
            column.cut(1, false, 1);
            column.wrap(1, 2);
            column.pass(1);
            dried(column, 1, 24);
            column.cut(1, true, at);
            dried(column, 1, 4 * at);
            dried(column, 3, 24 - 4 * at);
            dried(column, 0, 60);
            column.cut(0, true, at);
            dried(column, 0, 10 * at);
            dried(column, 4, 60 - 10 * at);
            column.cut(2, true, at);
            dried(column, 2, 10 * at);
            dried(column, 5, 60 - 10 * at);
        }
    }

    private static void sidesOnOneGoOn() {
        Check.says("CUT, BARE SIDES that stand on both go on");
        WheelAndWire x = Check.made("P/P/P/P");
        x.cut(0, true, 2);
        x.pass(1);
        x.cut(0, true, 1);
        dried(x, 0, 0);
        dried(x, 2, 10);
        x.cut(1, true, 1);
        dried(x, 1, 10);
        dried(x, 3, 0);
        WheelAndWire y = Check.made("PPPP");
        y.cut(0, false, 2);
        y.pass(1);
        y.cut(0, false, 1);
        dried(y, 0, 0);
        dried(y, 2, 10);
        y.cut(1, false, 1);
        dried(y, 1, 10);
        dried(y, 3, 0);
    }

    /** The first row of a form of two is trimmed once, which takes 1 off for each of its edges, and cut. */
    private static void offOfBoth(String row, int at, int ahead, int behind) {
        WheelAndWire x = halved(row + "/" + "P".repeat(row.length()));
        x.trim(0);
        off(x, 0, row.length());
        x.cut(0, false, at);
        Check.due("about(0, 5) of " + row + " cut at " + at, x.about(0, 5), ahead);
        Check.due("about(2, 5) of " + row + " cut at " + at, x.about(2, 5), behind);
        Check.due("about(1, 5): no other piece's", x.about(1, 5), 0);
    }

    private static void offSharedByWeight() {
        Check.says("OFF is shared by what PLACES weigh (ahead: cut, the rest behind");
        offOfBoth("PP", 1, 1, 1);
        offOfBoth("PR", 1, 1, 1);
        offOfBoth("RP", 1, 0, 2);
        offOfBoth("AP", 1, 0, 2);
        offOfBoth("PA", 1, 2, 0);
        offOfBoth("PPP", 1, 1, 2);
        offOfBoth("PPR", 2, 2, 1);
        offOfBoth("RPP", 1, 0, 3);
        offOfBoth("RPP", 2, 1, 2);
        offOfBoth("PAAAAA", 1, 6, 0);
        offOfBoth("PPPPPP", 5, 5, 1);
        WheelAndWire tall = Check.made("R/P/P");
        tall.cut(0, true, 2);
        tall.trim(0);
        tall.trim(0);
        off(tall, 0, 2);
        tall.cut(0, true, 1);
        off(tall, 0, 0);
        off(tall, 2, 2);
    }

    private static void offAllBehind() {
        Check.says("all behind, if they weigh nothing");
        offOfBoth("AA", 1, 0, 2);
        offOfBoth("AAAAAA", 5, 0, 6);
        WheelAndWire x = Check.made("A/A/P");
        x.cut(0, true, 2);
        x.trim(0);
        x.cut(0, true, 1);
        off(x, 0, 0);
        off(x, 2, 1);
    }

    private static void trimmedBy40AndEdges() {
        Check.says("what its BARE SIDES DRIED together by 40 (cut) and 1 for each EDGE of its BARE SIDES more is OFF");
        int[][] due = {{0, 1, 1}, {39, 1, 1}, {40, 2, 1}, {41, 2, 1}, {79, 2, 1}, {80, 3, 1}};
        for (int[] k : due) {
            WheelAndWire x = driedOnce(k[0]);
            Check.due("trim(0), dried " + k[0], x.trim(0), k[2]);
            off(x, 0, k[1]);
            weighs(x, 0, 10 - k[1]);
            Check.says("they DRIED 0 then");
            dried(x, 0, 0);
            x.pass(1);
            dried(x, 0, 2);
            Check.says("what its BARE SIDES DRIED together by 40 (cut) and 1 for each EDGE of its BARE SIDES more is OFF");
        }
        trimmedOnEachSide();
        WheelAndWire whole = Check.made("PP/PP");
        Check.due("trim(0) without a bare side", whole.trim(0), 0);
        off(whole, 0, 0);
        WheelAndWire both = Check.made("P/P/P");
        both.cut(0, true, 1);
        both.cut(1, true, 1);
        both.wrap(1, 1);
        both.pass(4);
        Check.due("trim(1): 20 and 20 are 40", both.trim(1), 2);
        off(both, 1, 3);
    }

    /** A piece with a bare side above, below, left and right each, and one with all four. */
    private static void trimmedOnEachSide() {
        WheelAndWire x = nine();
        x.pass(5);
        for (int piece = 0; piece < 9; piece++) {
            int sides = x.about(piece, 3);
            dried(x, piece, 50 * sides);
            x.trim(piece);
            off(x, piece, 50 * sides / 40 + sides);
            dried(x, piece, 0);
        }
        x.pass(1);
        for (int piece = 0; piece < 9; piece++) {
            dried(x, piece, 10 * x.about(piece, 3));
        }
        for (int along = 0; along < 2; along++) {
            WheelAndWire y = Check.made(along == 0 ? "P/P" : "PP");
            y.cut(0, along == 0, 1);
            y.pass(1);
            y.trim(0);
            y.trim(1);
            dried(y, 0, 0);
            dried(y, 1, 0);
        }
    }

    private static WheelAndWire nine() {
        WheelAndWire x = Check.made("PPP/PPP/PPP");
        x.cut(0, true, 1);
        x.cut(1, true, 1);
        for (int row = 0; row < 3; row++) {
            x.cut(row, false, 1);
            x.cut(3 + 2 * row, false, 1);
        }
        Check.due("count(0)", x.count(0), 9);
        return x;
    }

    private static void trimmedWeighsLess() {
        Check.says("A PIECE is TRIMMED: what it WEIGHS less by that.");
        int[][] due = {{34, 3, 2, 19}, {36, 2, 2, 20}, {38, 1, 1, 21}, {40, 0, 0, 22}, {60, 0, 0, 32}};
        for (int[] k : due) {
            WheelAndWire x = halved("PP/PP");
            x.pass(k[0]);
            weighs(x, 0, k[1]);
            Check.due("trim(0) of what weighs " + k[1], x.trim(0), k[2]);
            off(x, 0, k[3]);
            weighs(x, 0, k[1] - k[2]);
            weighs(x, 1, k[1]);
        }
    }

    private static void whatIsToldOfAPiece() {
        Check.says("whether it is AN END: 1, 0 (7). UNKNOWN: piece (any); BAD.");
        WheelAndWire x = halved("RP/PP");
        x.sell(0, false);
        x.sell(1, true);
        int[] bad = {MIN, -1, 8, 9, MAX};
        int[] none = {MIN, -1, 2, 23, 24, MAX};
        for (int what : bad) {
            Check.due("about(0, " + what + ")", x.about(0, what), BAD);
            Check.due("about(1, " + what + ")", x.about(1, what), BAD);
            for (int piece : none) {
                Check.due("about(" + piece + ", " + what + "): UNKNOWN ahead of BAD", x.about(piece, what), UNKNOWN);
            }
        }
        for (int piece : none) {
            for (int what = 0; what < 8; what++) {
                Check.due("about(" + piece + ", " + what + ")", x.about(piece, what), UNKNOWN);
            }
        }
        Check.says("Of a PIECE its BLOCK (what = 0), 0 STANDS, 1 SOLD, 2 TASTED (1), PLACES of rind (2), EDGES of BARE SIDES (3)");
        int[] sold = {12, 1, 1, 2, 0, 0, 0, 1};
        int[] tasted = {1012, 2, 0, 2, 0, 0, 0, 1};
        for (int what = 0; what < 8; what++) {
            Check.due("about(0, " + what + ") of a sold one", x.about(0, what), sold[what]);
            Check.due("about(1, " + what + ") of a tasted one", x.about(1, what), tasted[what]);
        }
    }

    /** Each row and each column has its own rind, so that no block is taken for another one. */
    private static void rindAndWeightOfEachBlock() {
        Check.says("PLACES of rind (2)");
        WheelAndWire x = Check.made("RPPPPP/RRPPPP/PRRRPP/RPRPRA/AAPRRR/PPRPAR");
        int[][] cuts = {{0, 0, 2}, {1, 1, 3}, {0, 1, 5}, {2, 0, 2}, {2, 1, 1}, {3, 0, 1}, {5, 1, 1}, {0, 1, 1}, {1, 0, 3}, {4, 0, 1}};
        for (int i = 0; i < cuts.length; i++) {
            int[] k = cuts[i];
            Check.due("cut(" + k[0] + ", " + (k[1] == 0) + ", " + k[2] + ")", x.cut(k[0], k[1] == 0, k[2]), i + 1);
        }
        int places = 0;
        for (int piece = 0; piece < x.count(0); piece++) {
            int block = x.about(piece, 0);
            int rind = 0;
            int weight = 0;
            for (int i = 0; i < block / 10 % 10 * (block % 10); i++) {
                int kind = x.place(block / 1000 + i / (block % 10), block / 100 % 10 + i % (block % 10));
                rind += kind == 1 ? 1 : 0;
                weight += kind == 0 ? 10 : kind == 1 ? 8 : 0;
                places++;
            }
            Check.due("about(" + piece + ", 2) of block " + block, x.about(piece, 2), rind);
            weighs(x, piece, weight);
        }
        Check.due("all places", places, 36);
    }

    private static void anyPieceWeighs() {
        Check.says("What a PIECE WEIGHS. UNKNOWN: piece (any).");
        WheelAndWire x = halved("RP/PP");
        x.sell(0, false);
        x.sell(1, true);
        weighs(x, 0, 18);
        weighs(x, 1, 20);
        int[] none = {MIN, -1, 2, 24, MAX};
        for (int piece : none) {
            weighs(x, piece, UNKNOWN);
        }
    }

    private static void halfHours1To999() {
        Check.says("So many HALF HOURS (1 .. 999) go by");
        WheelAndWire x = halved("P/P");
        int[] refused = {MIN, MIN + 1, -999, -1, 0, 1000, 1001, 9999, MAX - 9999, MAX - 1, MAX};
        for (int halfHours : refused) {
            Check.due("pass(" + halfHours + ")", x.pass(halfHours), BAD);
            Check.due("count(2)", x.count(2), 0);
            dried(x, 0, 0);
        }
        Check.due("pass(1)", x.pass(1), 1);
        Check.due("pass(998)", x.pass(998), 999);
        Check.due("pass(999)", x.pass(999), 1998);
        dried(x, 0, 19980);
        for (int halfHours : refused) {
            Check.due("pass(" + halfHours + ")", x.pass(halfHours), BAD);
        }
        Check.due("count(2)", x.count(2), 1998);
    }

    private static WheelAndWire lasting(int halfHours) {
        WheelAndWire x = halved("P/P");
        for (int i = 0; i < halfHours / 999; i++) {
            x.pass(999);
        }
        if (halfHours % 999 > 0) {
            x.pass(halfHours % 999);
        }
        Check.due("count(2)", x.count(2), halfHours);
        return x;
    }

    private static void halfHours9999() {
        Check.says("how many have (at most 9999, else BAD)");
        Check.due("pass(998) of 9000", lasting(9000).pass(998), 9998);
        Check.due("pass(999) of 9000", lasting(9000).pass(999), 9999);
        Check.due("pass(999) of 9001", lasting(9001).pass(999), BAD);
        Check.due("pass(1) of 9998", lasting(9998).pass(1), 9999);
        Check.due("pass(2) of 9998", lasting(9998).pass(2), BAD);
        WheelAndWire x = lasting(9999);
        Check.due("pass(1) of 9999", x.pass(1), BAD);
        Check.due("pass(999) of 9999", x.pass(999), BAD);
        Check.due("count(2)", x.count(2), 9999);
        dried(x, 0, 99990);
        Check.due("form()", x.form(), 2);
        Check.due("pass(1) of 0", x.pass(1), 1);
    }

    private static void wrappings() {
        Check.says("A PIECE is wrapped: how it was. UNKNOWN; BAD: 0 .. 2.");
        WheelAndWire x = halved("P/P");
        int[] refused = {MIN, -1, 3, 4, MAX};
        for (int was = 0; was <= 2; was++) {
            x.wrap(0, was);
            for (int how : refused) {
                Check.due("wrap(0, " + how + ")", x.wrap(0, how), BAD);
                Check.due("wrap(2, " + how + "): UNKNOWN ahead of BAD", x.wrap(2, how), UNKNOWN);
                Check.due("about(0, 6)", x.about(0, 6), was);
            }
            for (int how = 0; how <= 2; how++) {
                Check.due("wrap(0, " + how + ")", x.wrap(0, how), was);
                Check.due("about(0, 6)", x.about(0, 6), how);
                Check.due("wrap(0, " + was + ")", x.wrap(0, was), how);
            }
        }
        Check.due("about(1, 6): the other is not wrapped", x.about(1, 6), 0);
    }

    private static void soldOrTasted() {
        Check.says("A PIECE is SOLD, or TASTED: what it WEIGHS. UNKNOWN.");
        WheelAndWire x = halved("PR/PA");
        x.pass(2);
        Check.due("sell(0, false)", x.sell(0, false), 17);
        Check.due("about(0, 1)", x.about(0, 1), 1);
        Check.due("count(1)", x.count(1), 1);
        Check.due("sell(1, true)", x.sell(1, true), 9);
        Check.due("about(1, 1)", x.about(1, 1), 2);
        Check.due("count(1)", x.count(1), 0);
        Check.due("count(0)", x.count(0), 2);
        Check.due("sell(0, true)", x.sell(0, true), UNKNOWN);
        Check.due("about(0, 1): still sold", x.about(0, 1), 1);
        Check.due("sell(1, false)", x.sell(1, false), UNKNOWN);
        Check.due("about(1, 1): still tasted", x.about(1, 1), 2);
    }
}
