/** Where ASKS end, and which of like ones comes first: the first half of the third section and promises 14 to 19. */
public final class AskBoundsTest {
    private static final int NONE = WheelAndWire.NONE, BAD = WheelAndWire.BAD, UNKNOWN = WheelAndWire.UNKNOWN;
    private static final int MIN = Integer.MIN_VALUE, MAX = Integer.MAX_VALUE;
    private static final String LARGE = "PPPPPP/PPPPPP/PPPPPP/PPPPPP/PPPPPP/PPPPPP";

    public static void main(String[] args) {
        theNumbersOfAnAsk();
        theNumbersOfTwoAsks();
        unknownAheadOfBad();
        servesByWeight();
        servesByRind();
        servesOnlyIfItStands();
        weighsLeast();
        leastNumber();
        standsOrNeedsACut();
        aCutOnlyIfNoneDoes();
        fewestEdges();
        leastPieceOfCuts();
        acrossAheadOfAlong();
        leastX();
        theOneAhead();
        partsWithWhatDriedAndIsOff();
        noCutThatLeavesAll();
        noCutWhere24Are();
        serving();
        servingNothing();
        Check.end();
    }

    private static void asked(WheelAndWire x, int a, int o, int r, boolean isAsk) {
        String ask = a + ", " + o + ", " + r + ")";
        Check.due("serves(0, " + ask, x.serves(0, a, o, r), isAsk ? 0 : BAD);
        Check.due("stands(" + ask, x.stands(a, o, r), isAsk ? NONE : BAD);
        Check.due("next(" + ask, x.next(a, o, r), isAsk ? NONE : BAD);
        Check.due("serve(" + ask, x.serve(a, o, r), isAsk ? NONE : BAD);
        Check.due("two(" + ask + " twice", x.two(a, o, a, o, r), isAsk ? NONE : BAD);
        Check.due("twoFirst(" + ask + " twice", x.twoFirst(a, o, a, o, r), isAsk ? NONE : BAD);
        Check.due("order(" + ask, x.order(a, o, r), isAsk ? 1 : BAD);
        Check.due("unorder()", x.unorder(), isAsk ? 1 : 0);
    }

    /** A place of air serves nobody, so that each ask is answered alike. */
    private static void theNumbersOfAnAsk() {
        Check.says("AN ASK is a weight a (1 .. 360), o over at most (0 .. 99), r PLACES of rind at most (0 .. 36).");
        int[] wrongWeights = {MIN, -1, 0, 361, 362, MAX};
        int[] wrongOvers = {MIN, -1, 100, 101, MAX};
        int[] wrongRinds = {MIN, -1, 37, 38, MAX};
        int[] weights = {1, 2, 359, 360};
        int[] overs = {0, 1, 98, 99};
        int[] rinds = {0, 1, 35, 36};
        for (int i = 0; i < 4; i++) {
            WheelAndWire x = Check.made("A");
            asked(x, weights[i], 0, 0, true);
            asked(x, 1, overs[i], 0, true);
            asked(x, 1, 0, rinds[i], true);
            asked(x, weights[i], overs[i], rinds[3 - i], true);
        }
        WheelAndWire x = Check.made("A");
        for (int a : wrongWeights) {
            asked(x, a, 0, 0, false);
            asked(x, a, 99, 36, false);
        }
        for (int o : wrongOvers) {
            asked(x, 1, o, 0, false);
            asked(x, 360, o, 36, false);
        }
        for (int r : wrongRinds) {
            asked(x, 1, 0, r, false);
            asked(x, 360, 99, r, false);
        }
        asked(x, MIN, MIN, MIN, false);
        asked(x, MAX, MAX, MAX, false);
    }

    private static void theNumbersOfTwoAsks() {
        Check.says("BAD: as an ASK each (r for both)");
        int[][] wrong = {{0, 0}, {361, 0}, {-1, 0}, {1, -1}, {1, 100}, {MIN, 0}, {MAX, 0}, {1, MIN}, {1, MAX}};
        WheelAndWire x = Check.made("PP");
        for (int[] k : wrong) {
            String ask = k[0] + ", " + k[1];
            Check.due("two(10, 0, " + ask + ", 0)", x.two(10, 0, k[0], k[1], 0), BAD);
            Check.due("two(" + ask + ", 10, 0, 0)", x.two(k[0], k[1], 10, 0, 0), BAD);
            Check.due("twoFirst(10, 0, " + ask + ", 0)", x.twoFirst(10, 0, k[0], k[1], 0), BAD);
            Check.due("twoFirst(" + ask + ", 10, 0, 0)", x.twoFirst(k[0], k[1], 10, 0, 0), BAD);
        }
        int[] rinds = {MIN, -1, 37, MAX};
        for (int r : rinds) {
            Check.due("two(10, 0, 10, 0, " + r + ")", x.two(10, 0, 10, 0, r), BAD);
            Check.due("twoFirst(10, 0, 10, 0, " + r + ")", x.twoFirst(10, 0, 10, 0, r), BAD);
        }
        int[][] asks = {{1, 0}, {360, 0}, {1, 99}, {360, 99}};
        for (int[] k : asks) {
            Check.due("two(10, 0, " + k[0] + ", " + k[1] + ", 36)", x.two(10, 0, k[0], k[1], 36), k[0] == 1 && k[1] == 99 ? 1 : NONE);
            Check.due("two(" + k[0] + ", " + k[1] + ", 10, 0, 0)", x.two(k[0], k[1], 10, 0, 0), k[0] == 1 && k[1] == 99 ? 1 : NONE);
        }
        WheelAndWire rind = Check.made("PR");
        Check.due("two(10, 0, 8, 0, 0): r is for the second", rind.two(10, 0, 8, 0, 0), NONE);
        Check.due("two(8, 0, 10, 0, 0): r is for the first", rind.two(8, 0, 10, 0, 0), NONE);
        Check.due("two(10, 0, 8, 0, 1)", rind.two(10, 0, 8, 0, 1), 1);
        Check.due("two(8, 0, 10, 0, 1)", rind.two(8, 0, 10, 0, 1), 1);
    }

    private static void unknownAheadOfBad() {
        Check.says("Whether a PIECE SERVES an ASK: 1, 0. UNKNOWN: piece (any); BAD: a, o, r.");
        WheelAndWire x = Check.made("PP");
        x.cut(0, false, 1);
        int[] none = {MIN, -1, 2, 24, MAX};
        for (int piece : none) {
            Check.due("serves(" + piece + ", 10, 0, 0)", x.serves(piece, 10, 0, 0), UNKNOWN);
            Check.due("serves(" + piece + ", 0, 0, 0)", x.serves(piece, 0, 0, 0), UNKNOWN);
            Check.due("serves(" + piece + ", 10, 100, 37)", x.serves(piece, 10, 100, 37), UNKNOWN);
        }
        Check.due("serves(1, 10, 0, 0)", x.serves(1, 10, 0, 0), 1);
        x.sell(1, false);
        Check.due("serves(1, 0, 0, 0) of a sold one", x.serves(1, 0, 0, 0), BAD);
        Check.due("serves(1, 10, 0, 0) of a sold one", x.serves(1, 10, 0, 0), 0);
    }

    private static void servesByWeight() {
        Check.says("SERVES it, if it WEIGHS a .. a and o");
        WheelAndWire x = Check.made("P");
        int[][] due = {{9, 0, 0}, {9, 1, 1}, {10, 0, 1}, {10, 99, 1}, {11, 0, 0}, {11, 99, 0}, {8, 1, 0}, {8, 2, 1}, {1, 8, 0}, {1, 9, 1}};
        for (int[] k : due) {
            Check.due("serves(0, " + k[0] + ", " + k[1] + ", 0)", x.serves(0, k[0], k[1], 0), k[2]);
            Check.due("stands(" + k[0] + ", " + k[1] + ", 0)", x.stands(k[0], k[1], 0), k[2] == 1 ? 0 : NONE);
        }
        WheelAndWire large = Check.made(LARGE);
        Check.due("serves(0, 360, 0, 0)", large.serves(0, 360, 0, 0), 1);
        Check.due("serves(0, 360, 99, 36)", large.serves(0, 360, 99, 36), 1);
        Check.due("serves(0, 261, 99, 0)", large.serves(0, 261, 99, 0), 1);
        Check.due("serves(0, 260, 99, 0)", large.serves(0, 260, 99, 0), 0);
        WheelAndWire air = Check.made("A");
        Check.due("serves(0, 1, 99, 36): 0 is no weight that is asked", air.serves(0, 1, 99, 36), 0);
    }

    private static void servesByRind() {
        Check.says("has no more than r PLACES of rind");
        WheelAndWire x = Check.made(LARGE.replace('P', 'R'));
        Check.due("serves(0, 288, 0, 36)", x.serves(0, 288, 0, 36), 1);
        Check.due("serves(0, 288, 0, 35)", x.serves(0, 288, 0, 35), 0);
        Check.due("serves(0, 288, 0, 0)", x.serves(0, 288, 0, 0), 0);
        WheelAndWire y = Check.made("PRRP");
        Check.due("serves(0, 36, 0, 1)", y.serves(0, 36, 0, 1), 0);
        Check.due("serves(0, 36, 0, 2)", y.serves(0, 36, 0, 2), 1);
        Check.due("serves(0, 36, 0, 3)", y.serves(0, 36, 0, 3), 1);
        WheelAndWire z = Check.made("PPA");
        Check.due("serves(0, 20, 0, 0): air is no rind", z.serves(0, 20, 0, 0), 1);
    }

    private static void servesOnlyIfItStands() {
        Check.says("A PIECE that STANDS SERVES it");
        for (int how = 0; how < 2; how++) {
            WheelAndWire x = Check.made("PP/PP");
            x.cut(0, true, 1);
            x.sell(0, how == 1);
            Check.due("serves(0, 20, 0, 0)", x.serves(0, 20, 0, 0), 0);
            Check.due("stands(20, 0, 0)", x.stands(20, 0, 0), 1);
            Check.due("next(10, 0, 0): no cut of it", x.next(10, 0, 0), 1110);
            Check.due("twoFirst(10, 0, 10, 0, 0)", x.twoFirst(10, 0, 10, 0, 0), 101110);
            Check.due("two(20, 0, 20, 0, 0)", x.two(20, 0, 20, 0, 0), NONE);
            x.sell(1, how == 1);
            Check.due("stands(20, 0, 0)", x.stands(20, 0, 0), NONE);
            Check.due("next(10, 0, 0)", x.next(10, 0, 0), NONE);
            Check.due("serve(20, 0, 0)", x.serve(20, 0, 0), NONE);
        }
    }

    private static void weighsLeast() {
        Check.says("the PIECE that does and WEIGHS least");
        WheelAndWire x = Check.made("PPPPPP");
        x.cut(0, false, 3);
        x.cut(1, false, 2);
        Check.due("stands(10, 20, 0)", x.stands(10, 20, 0), 2);
        Check.due("stands(11, 19, 0)", x.stands(11, 19, 0), 1);
        Check.due("stands(21, 9, 0)", x.stands(21, 9, 0), 0);
        Check.due("stands(11, 8, 0)", x.stands(11, 8, 0), NONE);
        WheelAndWire rind = Check.made("PPR");
        rind.cut(0, false, 2);
        Check.due("stands(8, 12, 0): the lighter has too much rind", rind.stands(8, 12, 0), 0);
        Check.due("stands(8, 12, 1)", rind.stands(8, 12, 1), 1);
    }

    private static void leastNumber() {
        Check.says("of like ones the least number");
        WheelAndWire x = Check.made("PPPP");
        x.cut(0, false, 1);
        x.cut(1, false, 1);
        x.cut(2, false, 1);
        for (int piece = 0; piece < 4; piece++) {
            Check.due("stands(10, 0, 0)", x.stands(10, 0, 0), piece);
            Check.due("serve(10, 0, 0)", x.serve(10, 0, 0), piece);
        }
        Check.due("stands(10, 0, 0)", x.stands(10, 0, 0), NONE);
    }

    private static void standsOrNeedsACut() {
        Check.says("TO SERVE: the PIECE; NONE (none does, or it needs a CUT). BAD.");
        WheelAndWire x = Check.made("PP");
        Check.due("stands(10, 0, 0): it needs a cut", x.stands(10, 0, 0), NONE);
        Check.due("stands(15, 0, 0): none does", x.stands(15, 0, 0), NONE);
        Check.due("stands(20, 0, 0)", x.stands(20, 0, 0), 0);
        Check.due("count(0): nothing was cut", x.count(0), 1);
    }

    private static void aCutOnlyIfNoneDoes() {
        Check.says("The CUT TO SERVE, if no PIECE does");
        WheelAndWire x = Check.made("PPP");
        Check.due("next(10, 20, 0): the piece does", x.next(10, 20, 0), NONE);
        Check.due("next(10, 19, 0)", x.next(10, 19, 0), 110);
        Check.due("next(30, 0, 0): the piece does", x.next(30, 0, 0), NONE);
        Check.due("next(29, 0, 0): nothing does", x.next(29, 0, 0), NONE);
        Check.due("next(31, 0, 0): nothing does", x.next(31, 0, 0), NONE);
        WheelAndWire single = Check.made("P");
        Check.due("next(1, 8, 0): there is nothing to cut", single.next(1, 8, 0), NONE);
    }

    private static void fewestEdges() {
        Check.says("of such the one of fewest EDGES (as long as the CUT is)");
        WheelAndWire wide = Check.made("PPPPPP/PPPPPP");
        Check.due("next(60, 0, 0): 2 along, not 6 across", wide.next(60, 0, 0), 130);
        WheelAndWire tall = Check.made("PP/PP/PP/PP/PP/PP");
        Check.due("next(60, 0, 0): 2 across, not 6 along", tall.next(60, 0, 0), 30);
        WheelAndWire x = Check.made("PPPP/PPPP/PPPP");
        x.cut(0, true, 2);
        Check.due("next(20, 10, 0): 1 of piece 1, not 2 of piece 0", x.next(20, 10, 0), 1111);
        Check.due("next(20, 0, 0): 1 of piece 1", x.next(20, 0, 0), 1120);
        x.sell(1, true);
        Check.due("next(20, 10, 0): 2 of piece 0", x.next(20, 10, 0), 110);
    }

    private static void leastPieceOfCuts() {
        Check.says("of like ones the least PIECE, across ahead of along, the least x; of both parts the one ahead, if it SERVES.");
        WheelAndWire x = Check.made("PPP/PPP");
        x.cut(0, false, 2);
        x.cut(0, true, 1);
        Check.due("about(0, 0)", x.about(0, 0), 12);
        Check.due("about(1, 0)", x.about(1, 0), 221);
        Check.due("next(10, 0, 0): along piece 0, ahead of across piece 1", x.next(10, 0, 0), 110);
        x.sell(0, false);
        Check.due("next(10, 0, 0): across piece 1, ahead of along piece 2", x.next(10, 0, 0), 1010);
        x.sell(1, false);
        Check.due("next(10, 0, 0)", x.next(10, 0, 0), 2110);
        WheelAndWire y = Check.made("PPPP/PPPP");
        y.cut(0, true, 1);
        Check.due("next(30, 0, 0): a greater x of piece 1 does not count", y.next(30, 0, 0), 111);
    }

    private static void acrossAheadOfAlong() {
        Check.says("across ahead of along, the least x; of both parts the one ahead, if it SERVES.");
        WheelAndWire x = Check.made("PP/PP");
        Check.due("next(20, 0, 0)", x.next(20, 0, 0), 10);
        WheelAndWire y = Check.made("PRP/PPP/PPP");
        Check.due("next(30, 0, 0): across by 2, behind, ahead of along by 1", y.next(30, 0, 0), 21);
        WheelAndWire z = Check.made("PRP/PPP/PRP");
        Check.due("next(30, 0, 0): none across", z.next(30, 0, 0), 110);
    }

    private static void leastX() {
        Check.says("the least x; of both parts the one ahead, if it SERVES.");
        WheelAndWire x = Check.made("PPPP");
        Check.due("next(30, 0, 0): 1 and behind, not 3 and ahead", x.next(30, 0, 0), 111);
        Check.due("next(20, 10, 0): 1 and behind, not 2 and ahead", x.next(20, 10, 0), 111);
        Check.due("next(20, 0, 0)", x.next(20, 0, 0), 120);
        WheelAndWire y = Check.made("P/P/P/P");
        Check.due("next(30, 0, 0)", y.next(30, 0, 0), 11);
        Check.due("next(20, 0, 0)", y.next(20, 0, 0), 20);
        Check.says("1000 times the PIECE, 100 if it is along, 10 times x, and 1 if it is the part behind that SERVES");
        WheelAndWire six = Check.made("RRRRRP");
        Check.due("next(10, 0, 0): the greatest x there is", six.next(10, 0, 0), 151);
        WheelAndWire tall = Check.made("R/R/R/R/R/P");
        Check.due("next(10, 0, 0): the greatest x there is", tall.next(10, 0, 0), 51);
    }

    private static void theOneAhead() {
        Check.says("of both parts the one ahead, if it SERVES");
        WheelAndWire x = Check.made("PP");
        Check.due("next(10, 0, 0)", x.next(10, 0, 0), 110);
        Check.due("serve(10, 0, 0)", x.serve(10, 0, 0), 0);
        WheelAndWire y = Check.made("PR");
        Check.due("next(8, 2, 1): though the one behind weighs less", y.next(8, 2, 1), 110);
        Check.due("next(8, 1, 1): only the one behind", y.next(8, 1, 1), 111);
        Check.due("serve(8, 1, 1)", y.serve(8, 1, 1), 1);
        WheelAndWire z = Check.made("RP");
        Check.due("next(8, 2, 0): the one ahead has rind", z.next(8, 2, 0), 111);
    }

    /** Each row of two dried 80, or has 2 off: a part of one place weighs 9. */
    private static void partsWithWhatDriedAndIsOff() {
        Check.says("A CUT by which one of both parts SERVES");
        WheelAndWire x = Check.made("PP/PP");
        x.cut(0, true, 1);
        x.pass(4);
        Check.due("next(10, 0, 0)", x.next(10, 0, 0), NONE);
        Check.due("next(9, 0, 0)", x.next(9, 0, 0), 110);
        x.trim(0);
        Check.due("weighs(0)", x.weighs(0), 16);
        Check.due("next(8, 0, 0)", x.next(8, 0, 0), 110);
        Check.due("next(9, 0, 0): of the other", x.next(9, 0, 0), 1110);
        Check.due("about(0, 5): it was only thought of", x.about(0, 5), 4);
        Check.due("about(1, 4): it was only thought of", x.about(1, 4), 80);
    }

    /** A piece of one place that lost 1 by each of its sides: no cut at 0, nor one behind all of it, makes them new. */
    private static void noCutThatLeavesAll() {
        Check.says("x 1 and more, fewer than it has");
        for (int along = 0; along < 2; along++) {
            WheelAndWire x = Check.made(along == 0 ? "P/P/P" : "PPP");
            x.cut(0, along == 0, 1);
            x.cut(1, along == 0, 1);
            x.pass(4);
            Check.due("weighs(1)", x.weighs(1), 8);
            Check.due("next(10, 0, 0)", x.next(10, 0, 0), NONE);
            Check.due("serve(10, 0, 0)", x.serve(10, 0, 0), NONE);
            Check.due("two(10, 0, 9, 0, 0)", x.two(10, 0, 9, 0, 0), NONE);
            Check.due("two(9, 0, 10, 0, 0)", x.two(9, 0, 10, 0, 0), NONE);
            Check.due("twoFirst(10, 0, 9, 0, 0)", x.twoFirst(10, 0, 9, 0, 0), NONE);
            Check.due("twoFirst(9, 0, 8, 0, 0)", x.twoFirst(9, 0, 8, 0, 0), 0);
        }
    }

    private static void noCutWhere24Are() {
        Check.says("1000 times the PIECE, 100 if it is along, 10 times x, and 1 if it is the part behind that SERVES");
        WheelAndWire last = PieceBoundsTest.manyPieces(23);
        last.sell(4, false);
        last.sell(5, false);
        Check.due("next(30, 0, 0): of piece 22", last.next(30, 0, 0), 22111);
        Check.says("(No CUT, where 24 PIECES are.)");
        WheelAndWire x = PieceBoundsTest.manyPieces(23);
        Check.due("next(30, 0, 0) of 23", x.next(30, 0, 0), 4130);
        Check.due("serve(30, 0, 0) of 23", x.serve(30, 0, 0), 4);
        Check.due("count(0)", x.count(0), 24);
        Check.due("next(20, 0, 0) of 24", x.next(20, 0, 0), NONE);
        Check.due("serve(20, 0, 0) of 24", x.serve(20, 0, 0), NONE);
        Check.due("count(0)", x.count(0), 24);
        Check.due("count(1)", x.count(1), 23);
        Check.due("stands(30, 0, 0): what stands still serves", x.stands(30, 0, 0), 23);
        Check.due("serve(30, 0, 0)", x.serve(30, 0, 0), 23);
        Check.due("next(40, 0, 0): sold ones are among the 24", x.next(40, 0, 0), NONE);
    }

    private static void serving() {
        Check.says("It is SERVED (CUT, if need be): the PIECE that is SOLD");
        WheelAndWire x = Check.made("PPP");
        Check.due("serve(20, 0, 0): by a cut, behind", x.serve(20, 0, 0), 1);
        Check.due("about(1, 1)", x.about(1, 1), 1);
        Check.due("about(0, 1)", x.about(0, 1), 0);
        Check.due("serve(10, 0, 0): by a piece", x.serve(10, 0, 0), 0);
        Check.due("count(0)", x.count(0), 2);
        WheelAndWire tall = Check.made("P/P/P");
        Check.due("serve(20, 0, 0): by a cut across, behind", tall.serve(20, 0, 0), 1);
        Check.due("about(1, 0)", tall.about(1, 0), 1021);
        Check.due("about(1, 1)", tall.about(1, 1), 1);
        WheelAndWire rows = Check.made("PPP/PPP/PPP/PPP");
        Check.due("serve(60, 0, 0): by a cut across, ahead", rows.serve(60, 0, 0), 0);
        Check.due("about(0, 0)", rows.about(0, 0), 23);
        Check.due("about(1, 0)", rows.about(1, 0), 2023);
        Check.due("serve(30, 0, 0): of piece 1", rows.serve(30, 0, 0), 1);
        Check.due("about(1, 0)", rows.about(1, 0), 2013);
        Check.due("serve(20, 0, 0): of piece 2, behind", rows.serve(20, 0, 0), 3);
        Check.due("about(3, 0)", rows.about(3, 0), 3112);
        WheelAndWire many = PieceBoundsTest.manyPieces(23);
        many.sell(4, false);
        many.sell(5, false);
        Check.due("serve(30, 0, 0): of piece 22, behind", many.serve(30, 0, 0), 23);
        Check.due("about(22, 0)", many.about(22, 0), 3211);
        servedAcrossOfHighNumbers();
        WheelAndWire y = Check.made("PPP");
        y.wrap(0, 2);
        Check.due("serve(10, 0, 0): by a cut, ahead", y.serve(10, 0, 0), 0);
        Check.due("about(0, 0)", y.about(0, 0), 11);
        Check.due("about(1, 0)", y.about(1, 0), 112);
        Check.due("about(1, 6)", y.about(1, 6), 2);
    }

    /** Columns that are cut place by place: the last piece is a column of four, and each ahead of it too light. */
    private static void servedAcrossOfHighNumbers() {
        WheelAndWire x = Check.made(LARGE);
        for (int column = 0; column < 5; column++) {
            x.cut(column, false, 1);
        }
        for (int i = 0; i < 17; i++) {
            x.cut(i % 5 == 0 ? i / 5 : 5 + i, true, 1);
        }
        x.sell(4, true);
        x.sell(5, true);
        Check.due("about(22, 0)", x.about(22, 0), 2341);
        Check.due("next(30, 0, 0)", x.next(30, 0, 0), 22011);
        Check.due("twoFirst(30, 0, 10, 0, 0)", x.twoFirst(30, 0, 10, 0, 0), 122011);
        Check.due("serve(30, 0, 0): of piece 22, behind", x.serve(30, 0, 0), 23);
        Check.due("about(22, 0)", x.about(22, 0), 2311);
        Check.due("about(23, 0)", x.about(23, 0), 3331);
    }

    private static void servingNothing() {
        Check.says("NONE: none can be. BAD.");
        WheelAndWire x = Check.made("PP");
        Check.due("serve(15, 0, 0)", x.serve(15, 0, 0), NONE);
        Check.due("serve(21, 99, 0)", x.serve(21, 99, 0), NONE);
        Check.due("count(0)", x.count(0), 1);
        Check.due("count(1)", x.count(1), 1);
        Check.due("serve(20, 0, 0)", x.serve(20, 0, 0), 0);
        Check.due("serve(20, 0, 0): it is sold", x.serve(20, 0, 0), NONE);
        Check.due("serve(1, 99, 36): nothing stands", x.serve(1, 99, 36), NONE);
        Check.due("serve(0, 99, 36): BAD, though nothing stands", x.serve(0, 99, 36), BAD);
    }
}
