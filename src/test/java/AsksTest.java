/** Promises 14 to 19: serves, stands, next, serve, two, twoFirst. */
public final class AsksTest {
    private static final int NONE = WheelAndWire.NONE, BAD = WheelAndWire.BAD, UNKNOWN = WheelAndWire.UNKNOWN;

    public static void main(String[] args) {
        servesOrNot();
        asksThatAreNone();
        theLightestPieceServes();
        whichCutServes();
        dryingCountsForParts();
        serving();
        noCutOf24();
        twoAhead();
        twoAheadByLongerFirstCut();
        twoAheadPrefersPieces();
        twoAheadCutsThoughAPieceServes();
        twoAheadNear24();
        Check.end();
    }

    private static void servesOrNot() {
        WheelAndWire x = Check.made("PPRR/PPPP");
        x.cut(0, true, 1);
        Check.due("serves(0, 36, 0, 2)", x.serves(0, 36, 0, 2), 1);
        Check.due("serves(0, 36, 0, 1)", x.serves(0, 36, 0, 1), 0);
        Check.due("serves(0, 37, 9, 2)", x.serves(0, 37, 9, 2), 0);
        Check.due("serves(0, 30, 6, 2)", x.serves(0, 30, 6, 2), 1);
        Check.due("serves(0, 30, 5, 2)", x.serves(0, 30, 5, 2), 0);
        Check.due("serves(1, 1, 39, 0)", x.serves(1, 1, 39, 0), 1);
        x.pass(4);
        Check.due("serves(1, 40, 0, 0)", x.serves(1, 40, 0, 0), 0);
        Check.due("serves(1, 36, 0, 0)", x.serves(1, 36, 0, 0), 1);
        x.sell(1, false);
        Check.due("serves(1, 36, 0, 0)", x.serves(1, 36, 0, 0), 0);
        x.sell(0, true);
        Check.due("serves(0, 1, 99, 36)", x.serves(0, 1, 99, 36), 0);
        Check.due("serves(2, 36, 0, 0)", x.serves(2, 36, 0, 0), UNKNOWN);
        Check.due("serves(-1, 36, 0, 0)", x.serves(-1, 36, 0, 0), UNKNOWN);
        Check.due("serves(2, 0, 0, 0)", x.serves(2, 0, 0, 0), UNKNOWN);
    }

    private static void asksThatAreNone() {
        int[][] asks = {{0, 0, 0}, {-1, 0, 0}, {361, 0, 0}, {1, -1, 0}, {1, 100, 0}, {1, 0, -1}, {1, 0, 37},
            {Integer.MAX_VALUE, Integer.MAX_VALUE, Integer.MAX_VALUE}, {Integer.MIN_VALUE, 0, 0}};
        WheelAndWire x = Check.made("PPP/PPP");
        for (int[] k : asks) {
            String ask = k[0] + ", " + k[1] + ", " + k[2];
            Check.due("serves(0, " + ask, x.serves(0, k[0], k[1], k[2]), BAD);
            Check.due("stands(" + ask, x.stands(k[0], k[1], k[2]), BAD);
            Check.due("next(" + ask, x.next(k[0], k[1], k[2]), BAD);
            Check.due("serve(" + ask, x.serve(k[0], k[1], k[2]), BAD);
            Check.due("order(" + ask, x.order(k[0], k[1], k[2]), BAD);
            Check.due("two, the first " + ask, x.two(k[0], k[1], 10, 0, k[2]), BAD);
            Check.due("two, the second " + ask, x.two(10, 0, k[0], k[1], k[2]), BAD);
            Check.due("twoFirst, the first " + ask, x.twoFirst(k[0], k[1], 10, 0, k[2]), BAD);
            Check.due("twoFirst, the second " + ask, x.twoFirst(10, 0, k[0], k[1], k[2]), BAD);
        }
        Check.due("stands(360, 99, 36)", x.stands(360, 99, 36), NONE);
        Check.due("stands(1, 0, 0)", x.stands(1, 0, 0), NONE);
        Check.due("count(1)", x.count(1), 1);
    }

    private static void theLightestPieceServes() {
        WheelAndWire x = Check.made("PPPP/PPPP/PPPP/RRRR");
        x.cut(0, true, 2);
        x.cut(1, true, 1);
        Check.due("stands(20, 60, 9)", x.stands(20, 60, 9), 2);
        Check.due("stands(20, 60, 3)", x.stands(20, 60, 3), 1);
        Check.due("stands(41, 39, 0)", x.stands(41, 39, 0), 0);
        Check.due("stands(81, 99, 36)", x.stands(81, 99, 36), NONE);
        x.cut(0, true, 1);
        Check.due("stands(33, 9, 0): of like ones the least", x.stands(33, 9, 0), 0);
        x.sell(0, false);
        Check.due("stands(33, 9, 0)", x.stands(33, 9, 0), 1);
        Check.due("stands(10, 0, 0): it needs a cut", x.stands(10, 0, 0), NONE);
    }

    private static void whichCutServes() {
        WheelAndWire x = Check.made("PPP/PPP/PPP/PPP");
        Check.due("next(120, 0, 0): a piece does", x.next(120, 0, 0), NONE);
        Check.due("next(30, 0, 0): across, ahead", x.next(30, 0, 0), 10);
        Check.due("next(90, 0, 0): the least x, though behind", x.next(90, 0, 0), 11);
        Check.due("next(80, 0, 0): along", x.next(80, 0, 0), 111);
        Check.due("next(70, 0, 0)", x.next(70, 0, 0), NONE);
        Check.due("next(30, 99, 0): a piece does", x.next(30, 99, 0), NONE);
        Check.due("next(30, 60, 0): the least x", x.next(30, 60, 0), 10);
        Check.due("next(61, 40, 0): across is shorter", x.next(61, 40, 0), 10 + 1);
        x.cut(0, false, 1);
        Check.due("next(10, 0, 0): one edge of 0", x.next(10, 0, 0), 10);
        Check.due("next(20, 0, 0): one edge of 0", x.next(20, 0, 0), 20);
        x.sell(0, false);
        Check.due("next(20, 0, 0): two edges of 1", x.next(20, 0, 0), 1010);
        Check.due("next(60, 0, 0)", x.next(60, 0, 0), 1011);
        Check.due("next(40, 0, 0): across is shorter", x.next(40, 0, 0), 1020);
        WheelAndWire y = Check.made("RRPP/RRPP");
        Check.due("next(40, 0, 0): the part behind", y.next(40, 0, 0), 121);
        Check.due("next(32, 0, 4)", y.next(32, 0, 4), 120);
        Check.due("next(32, 0, 3)", y.next(32, 0, 3), NONE);
        WheelAndWire z = Check.made("PP/PP");
        Check.due("next(20, 0, 0): across ahead of along", z.next(20, 0, 0), 10);
        z.cut(0, true, 1);
        Check.due("next(10, 0, 0): the least piece", z.next(10, 0, 0), 110);
    }

    /** 4 half hours open: 40 for an edge, so a part loses 1 for each edge that it keeps. */
    private static void dryingCountsForParts() {
        WheelAndWire x = Check.made("PPPP/PPPP");
        x.cut(0, true, 1);
        x.pass(4);
        Check.due("next(18, 0, 0)", x.next(18, 0, 0), 120);
        Check.due("next(20, 0, 0)", x.next(20, 0, 0), NONE);
        x.trim(0);
        Check.due("next(18, 0, 0)", x.next(18, 0, 0), 1120);
        Check.due("next(16, 0, 0)", x.next(16, 0, 0), 120);
        Check.due("serve(16, 0, 0)", x.serve(16, 0, 0), 0);
        Check.due("about(0, 5)", x.about(0, 5), 4);
        Check.due("about(2, 5)", x.about(2, 5), 4);
    }

    private static void serving() {
        WheelAndWire x = Check.made("RRPP/RRPP");
        Check.due("serve(40, 0, 0): the part behind", x.serve(40, 0, 0), 1);
        Check.due("about(1, 0)", x.about(1, 0), 222);
        Check.due("about(1, 1)", x.about(1, 1), 1);
        Check.due("about(0, 1)", x.about(0, 1), 0);
        Check.due("serve(40, 0, 0)", x.serve(40, 0, 0), NONE);
        Check.due("count(0)", x.count(0), 2);
        Check.due("serve(8, 8, 2): ahead", x.serve(8, 8, 2), 0);
        Check.due("about(0, 0)", x.about(0, 0), 12);
        Check.due("about(2, 0)", x.about(2, 0), 1012);
        Check.due("serve(16, 0, 2): it stands", x.serve(16, 0, 2), 2);
        Check.due("serve(1, 99, 36)", x.serve(1, 99, 36), NONE);
        Check.due("count(1)", x.count(1), 0);
    }

    private static void noCutOf24() {
        WheelAndWire x = PiecesTest.full();
        Check.due("next(20, 0, 0)", x.next(20, 0, 0), NONE);
        Check.due("serve(20, 0, 0)", x.serve(20, 0, 0), NONE);
        Check.due("two(10, 0, 20, 0, 0)", x.two(10, 0, 20, 0, 0), NONE);
        Check.due("two(10, 0, 60, 0, 0)", x.two(10, 0, 60, 0, 0), 0);
        Check.due("twoFirst(10, 0, 60, 0, 0)", x.twoFirst(10, 0, 60, 0, 0), 0);
        Check.due("serve(10, 0, 0)", x.serve(10, 0, 0), 0);
    }

    private static void twoAhead() {
        WheelAndWire x = Check.made("PPPP/PPPP");
        Check.due("two(20, 0, 40, 0, 0)", x.two(20, 0, 40, 0, 0), 4);
        Check.due("twoFirst(20, 0, 40, 0, 0)", x.twoFirst(20, 0, 40, 0, 0), 100110);
        Check.due("two(20, 0, 60, 0, 0)", x.two(20, 0, 60, 0, 0), 2);
        Check.due("twoFirst(20, 0, 60, 0, 0)", x.twoFirst(20, 0, 60, 0, 0), 100110);
        Check.due("two(80, 0, 10, 0, 0)", x.two(80, 0, 10, 0, 0), NONE);
        Check.due("twoFirst(80, 0, 10, 0, 0)", x.twoFirst(80, 0, 10, 0, 0), NONE);
        Check.due("two(40, 0, 40, 0, 0)", x.two(40, 0, 40, 0, 0), 2);
        Check.due("twoFirst(40, 0, 40, 0, 0)", x.twoFirst(40, 0, 40, 0, 0), 100120);
        Check.due("count(0)", x.count(0), 1);
        Check.due("about(0, 0)", x.about(0, 0), 24);
        WheelAndWire y = Check.made("RRPP/RRPP");
        Check.due("two(40, 0, 32, 0, 4)", y.two(40, 0, 32, 0, 4), 2);
        Check.due("twoFirst(40, 0, 32, 0, 4): the part behind", y.twoFirst(40, 0, 32, 0, 4), 100121);
        Check.due("two(40, 0, 32, 0, 3): r is for both", y.two(40, 0, 32, 0, 3), NONE);
    }

    /** The shortest cut for the first leaves nothing for the second; a longer one does. */
    private static void twoAheadByLongerFirstCut() {
        WheelAndWire x = Check.made("PP/PP/PP");
        Check.due("next(20, 10, 0)", x.next(20, 10, 0), 10);
        Check.due("two(20, 10, 30, 0, 0)", x.two(20, 10, 30, 0, 0), 3);
        Check.due("twoFirst(20, 10, 30, 0, 0)", x.twoFirst(20, 10, 30, 0, 0), 100110);
    }

    private static void twoAheadPrefersPieces() {
        WheelAndWire x = Check.made("PPPP/PPPP/PPPP");
        x.cut(0, true, 1);
        x.cut(1, true, 1);
        Check.due("two(40, 0, 40, 0, 0)", x.two(40, 0, 40, 0, 0), 0);
        Check.due("twoFirst(40, 0, 40, 0, 0)", x.twoFirst(40, 0, 40, 0, 0), 0);
        Check.due("two(40, 0, 10, 0, 0)", x.two(40, 0, 10, 0, 0), 1);
        Check.due("twoFirst(40, 0, 10, 0, 0)", x.twoFirst(40, 0, 10, 0, 0), 0);
        Check.due("two(10, 0, 40, 0, 0)", x.two(10, 0, 40, 0, 0), 1);
        Check.due("twoFirst(10, 0, 40, 0, 0)", x.twoFirst(10, 0, 40, 0, 0), 100110);
        Check.due("two(30, 9, 20, 0, 0)", x.two(30, 9, 20, 0, 0), 2);
        Check.due("twoFirst(30, 9, 20, 0, 0): the least x", x.twoFirst(30, 9, 20, 0, 0), 100111);
        Check.due("two(30, 9, 10, 0, 0): both of one cut", x.two(30, 9, 10, 0, 0), 1);
        Check.due("twoFirst(30, 9, 10, 0, 0)", x.twoFirst(30, 9, 10, 0, 0), 100111);
        Check.due("twoFirst(10, 20, 10, 20, 0): ahead before behind", x.twoFirst(10, 20, 10, 20, 0), 100110);
        Check.due("two(30, 10, 40, 0, 0): a piece that is heavier", x.two(30, 10, 40, 0, 0), 0);
        Check.due("twoFirst(30, 10, 40, 0, 0)", x.twoFirst(30, 10, 40, 0, 0), 0);
    }

    /** The only piece of 40 serves both asks: it is cheaper to cut for the first and leave it. */
    private static void twoAheadCutsThoughAPieceServes() {
        WheelAndWire x = Check.made("PPPP/RRRR/RRRR/RRRR/RRRR");
        x.cut(0, true, 1);
        Check.due("two(32, 8, 40, 0, 4)", x.two(32, 8, 40, 0, 4), 4);
        Check.due("twoFirst(32, 8, 40, 0, 4)", x.twoFirst(32, 8, 40, 0, 4), 101010);
        Check.due("stands(32, 8, 4)", x.stands(32, 8, 4), 0);
        WheelAndWire y = Check.made("PP/PP/RR/RR");
        y.cut(0, true, 2);
        Check.due("two(32, 8, 40, 0, 4): the lightest first", y.two(32, 8, 40, 0, 4), 0);
        Check.due("twoFirst(32, 8, 40, 0, 4)", y.twoFirst(32, 8, 40, 0, 4), 1);
        Check.due("twoFirst(32, 8, 32, 0, 4): any that serves", y.twoFirst(32, 8, 32, 0, 4), 0);
    }

    /** With 23 pieces there is one cut more for both asks together. */
    private static void twoAheadNear24() {
        WheelAndWire x = Check.made("PPPPPP/PPPPPP/PPPPPP/PPPPPP/PPPPPP/PPPPPP");
        for (int row = 0; row < 5; row++) {
            x.cut(row, true, 1);
        }
        int next = 6;
        for (int row = 0; row < 4; row++) {
            int from = row;
            for (int i = 0; i < 5 && next < 23; i++) {
                x.cut(from, false, 1);
                from = next++;
            }
        }
        Check.due("count(0)", x.count(0), 23);
        Check.due("two(20, 0, 50, 0, 0)", x.two(20, 0, 50, 0, 0), NONE);
        Check.due("two(20, 0, 20, 0, 0): both of one cut", x.two(20, 0, 20, 0, 0), 1);
        Check.due("two(50, 0, 50, 0, 0)", x.two(50, 0, 50, 0, 0), NONE);
        Check.due("two(30, 0, 30, 0, 0)", x.two(30, 0, 30, 0, 0), 1);
        Check.due("twoFirst(30, 0, 30, 0, 0)", x.twoFirst(30, 0, 30, 0, 0), 104130);
        Check.due("two(10, 0, 20, 0, 0)", x.two(10, 0, 20, 0, 0), 1);
        Check.due("twoFirst(10, 0, 20, 0, 0)", x.twoFirst(10, 0, 20, 0, 0), 0);
        Check.due("two(20, 0, 10, 0, 0)", x.two(20, 0, 10, 0, 0), 1);
        Check.due("twoFirst(20, 0, 10, 0, 0)", x.twoFirst(20, 0, 10, 0, 0), 104120);
    }
}
