/** Where SLOTS and counts end: promises 39 to 41, sentence by sentence. */
public final class SlotBoundsTest {
    private static final int BAD = WheelAndWire.BAD, UNKNOWN = WheelAndWire.UNKNOWN, LATE = WheelAndWire.LATE;
    private static final int FULL = WheelAndWire.FULL;
    private static final int MIN = Integer.MIN_VALUE, MAX = Integer.MAX_VALUE;

    public static void main(String[] args) {
        slots0And1();
        noneWereKept();
        whatIsKept();
        halfHoursAreKept();
        fullAndEmptyAreKept();
        howManyStand();
        whatIsCounted();
        countsAtTheirMost();
        Check.end();
    }

    private static void slots0And1() {
        Check.says("SLOTS 0 .. 1 keep all PIECES (and how many HALF HOURS went by).");
        WheelAndWire x = Check.made("PP");
        int[] none = {MIN, -1, 2, 3, MAX};
        Check.says("They are kept: how many PIECES STAND. UNKNOWN.");
        for (int slot : none) {
            Check.due("keep(" + slot + ")", x.keep(slot), UNKNOWN);
            Check.due("again(" + slot + "): UNKNOWN ahead of LATE", x.again(slot), UNKNOWN);
        }
        Check.due("again(0): nothing was kept by that", x.again(0), LATE);
        Check.due("again(1): nothing was kept by that", x.again(1), LATE);
        Check.due("keep(0)", x.keep(0), 1);
        x.cut(0, false, 1);
        Check.due("keep(1)", x.keep(1), 2);
        for (int slot : none) {
            Check.due("keep(" + slot + ")", x.keep(slot), UNKNOWN);
            Check.due("again(" + slot + ")", x.again(slot), UNKNOWN);
        }
        Check.due("again(0)", x.again(0), 1);
        Check.due("count(0)", x.count(0), 1);
        Check.due("again(1)", x.again(1), 2);
        Check.due("count(0)", x.count(0), 2);
    }

    private static void noneWereKept() {
        Check.says("They are as they were kept: how many PIECES STAND. UNKNOWN; LATE: none were kept.");
        WheelAndWire x = Check.made("PP");
        x.cut(0, false, 1);
        x.pass(3);
        Check.due("again(0)", x.again(0), LATE);
        Check.due("again(1)", x.again(1), LATE);
        Check.due("count(0): nothing changed", x.count(0), 2);
        Check.due("count(2): nothing changed", x.count(2), 3);
        x.keep(1);
        Check.due("again(0): the other was kept", x.again(0), LATE);
        Check.due("again(1)", x.again(1), 2);
        x.form();
        Check.due("again(1): gone", x.again(1), LATE);
        x.keep(0);
        Check.due("again(1): the other was kept", x.again(1), LATE);
        Check.due("again(0)", x.again(0), 1);
        Check.due("again(0) once more", x.again(0), 1);
    }

    private static void whatIsKept() {
        Check.says("They are as they were kept");
        WheelAndWire x = Check.made("PR/PP");
        x.cut(0, true, 1);
        x.wrap(1, 1);
        x.pass(8);
        x.trim(0);
        x.pass(1);
        x.sell(0, true);
        int[][] due = {{12, 2, 1, 2, 20, 6, 0, 1}, {1012, 0, 0, 2, 90, 0, 1, 1}};
        Check.due("keep(0)", x.keep(0), 1);
        x.pass(3);
        x.wrap(1, 2);
        x.trim(1);
        x.cut(1, false, 1);
        x.sell(1, false);
        Check.due("again(0)", x.again(0), 1);
        for (int piece = 0; piece < 2; piece++) {
            for (int what = 0; what < 8; what++) {
                Check.due("about(" + piece + ", " + what + ")", x.about(piece, what), due[piece][what]);
            }
        }
        Check.due("about(2, 0): cut after it was kept", x.about(2, 0), UNKNOWN);
        Check.due("count(2)", x.count(2), 9);
        x.sell(1, true);
        Check.due("keep(0): kept anew", x.keep(0), 0);
        Check.due("again(0)", x.again(0), 0);
        Check.due("about(1, 1)", x.about(1, 1), 2);
    }

    private static void halfHoursAreKept() {
        Check.says("(and how many HALF HOURS went by)");
        WheelAndWire x = Check.made("PP");
        x.keep(0);
        for (int i = 0; i < 10; i++) {
            x.pass(999);
        }
        x.pass(9);
        x.keep(1);
        Check.due("pass(1)", x.pass(1), BAD);
        Check.due("again(0)", x.again(0), 1);
        Check.due("count(2)", x.count(2), 0);
        Check.due("pass(999): there is time again", x.pass(999), 999);
        Check.due("again(1)", x.again(1), 1);
        Check.due("count(2)", x.count(2), 9999);
        Check.due("pass(1)", x.pass(1), BAD);
    }

    private static void fullAndEmptyAreKept() {
        Check.says("SLOTS 0 .. 1 keep all PIECES");
        WheelAndWire x = PieceBoundsTest.manyPieces(23);
        Check.due("keep(0)", x.keep(0), 23);
        Check.due("cut(5, false, 3)", x.cut(5, false, 3), 23);
        Check.due("keep(1)", x.keep(1), 24);
        Check.due("cut(5, false, 1)", x.cut(5, false, 1), FULL);
        Check.due("again(0)", x.again(0), 23);
        Check.due("cut(5, false, 1): there is room again", x.cut(5, false, 1), 23);
        Check.due("about(23, 0)", x.about(23, 0), 5115);
        Check.due("again(1)", x.again(1), 24);
        Check.due("about(23, 0)", x.about(23, 0), 5313);
        Check.due("cut(5, false, 1)", x.cut(5, false, 1), FULL);
    }

    private static void howManyStand() {
        Check.says("They are kept: how many PIECES STAND.");
        WheelAndWire x = Check.made("PPP");
        x.cut(0, false, 1);
        x.cut(1, false, 1);
        Check.due("keep(0)", x.keep(0), 3);
        x.sell(1, false);
        Check.due("keep(1)", x.keep(1), 2);
        x.sell(0, true);
        x.sell(2, true);
        Check.due("keep(1)", x.keep(1), 0);
        Check.due("again(0)", x.again(0), 3);
        Check.due("again(1)", x.again(1), 0);
    }

    private static void whatIsCounted() {
        Check.says("5 bytes of THE TEXT, 6 rows of THE BOOK OF OVERS. BAD.");
        WheelAndWire x = new WheelAndWire();
        int[] wrong = {MIN, -2, -1, 7, 8, MAX};
        for (int what : wrong) {
            Check.due("count(" + what + ")", x.count(what), BAD);
        }
        int[] first = {1, 1, 0, 0, 0, 0, 0};
        for (int what = 0; what < first.length; what++) {
            Check.due("count(" + what + ") at first", x.count(what), first[what]);
        }
    }

    private static void countsAtTheirMost() {
        Check.says("0 PIECES, 1 those that STAND, 2 HALF HOURS, 3 ASKS of THE ORDER, 4 BLOCKS that are LEFT");
        WheelAndWire x = PieceBoundsTest.manyPieces(24);
        x.sell(7, true);
        for (int i = 0; i < 12; i++) {
            x.pass(i < 10 ? 999 : 9);
        }
        for (int i = 0; i < 7; i++) {
            x.order(10, 0, 0);
            x.left(1000 * Math.min(i, 5) + 16);
            x.write(1, 0);
        }
        Check.due("write(1, 0)", x.write(1, 0), FULL);
        for (int i = 0; i < 17; i++) {
            x.book(i);
        }
        int[] due = {24, 23, 9999, 4, 6, 48, 16};
        for (int what = 0; what < due.length; what++) {
            Check.due("count(" + what + ") at its most", x.count(what), due[what]);
        }
    }
}
