/** The document's terms from their first line to their last, each whole sentence with a run that shows it. */
public final class TermsTest {
    private static final String LARGE = "PPPPPP/PPPPPP/PPPPPP/PPPPPP/PPPPPP/PPPPPP";

    public static void main(String[] args) {
        Script x = new Script();
        theForm(x);
        thePieces(x);
        whatDries(x);
        Script y = new Script();
        theAsks(y);
        twoAhead(y);
        wholeOnes(y);
        leftAndRipe(y);
        Script z = new Script();
        books(z);
        endsAndSlots(z);
        refusals(z);
        Check.end();
    }

    private static void faultOf(Script x, String text, int due) {
        x.text(text);
        x.due("fault() " + due);
    }

    private static void theForm(Script x) {
        Check.says("At first the FORM is P.");
        x.due("place(0, 0) 0", "place(0, 1) UNKNOWN; place(1, 0) UNKNOWN", "about(0, 0) 11");
        Check.says("THE TEXT is bytes (48 at most): a FORM:");
        x.due("count(5) 0", "write(8, 80) 8; write(8, 80) 16; write(8, 80) 24; write(8, 80) 32; write(8, 80) 40");
        x.due("write(8, 80) 48; write(1, 80) FULL", "count(5) 48", "wipe() 48");
        Check.says("1 .. 6 ROWS with a / between them, each of as many signs as the first one (1 .. 6): P paste, R rind, A air.");
        x.form("PPPPPP/RRRRRR/AAAAAA/PPPPPP/RRRRRR/AAAAAA");
        x.due("place(0, 5) 0; place(1, 5) 1; place(2, 0) 2; place(5, 5) 2", "place(6, 0) UNKNOWN; place(0, 6) UNKNOWN");
        faultOf(x, "P/P/P/P/P/P/P", 11);
        faultOf(x, "PPPPPPP", 6);
        faultOf(x, "PP/PPP", 5);
        faultOf(x, "P//P", 2);
        faultOf(x, "/P", 0);
        faultOf(x, "PpP", 1);
        Check.says("FAULT: the place (from 0) of the first byte by which THE TEXT can be no FORM, whatever came behind it "
            + "(its length set aside); its length, if it is only not at its end; NONE: none.");
        faultOf(x, "PP/PX/P", 4);
        faultOf(x, "PP/P/PP", 4);
        faultOf(x, LARGE + "PPPPPPP", 41);
        faultOf(x, LARGE, WheelAndWire.NONE);
        faultOf(x, "PP/PP/", 6);
        faultOf(x, "PP/P", 4);
        faultOf(x, "", 0);
        Check.says("A PLACE weighs 10 (paste), 8 (rind), 0 (air).");
        x.form("PRA");
        x.due("weighs(0) 18", "cut(0, false, 1) 1; cut(1, false, 1) 2", "weighs(0) 10; weighs(1) 8; weighs(2) 0");
        Check.says("A BLOCK is a row of ROWS and a row of COLUMNS of the FORM, told as 1000 times the first ROW, "
            + "100 times the first COLUMN, 10 times how many ROWS, and how many COLUMNS (1 and more each).");
        x.form("PPP/PPP/PPP");
        x.due("about(0, 0) 33", "cut(0, true, 1) 1; about(1, 0) 1023", "cut(1, false, 1) 2; about(2, 0) 1122");
        x.due("left(1122) 1; left(1102) UNKNOWN; left(1120) UNKNOWN; left(1123) UNKNOWN; left(1132) UNKNOWN", "unleft() 1");
    }

    /** Rows one by one, then the first ones place by place: 23 pieces, and all of them but the rows 3 to 5 are places. */
    private static void cutInto23(Script x) {
        x.form(LARGE);
        x.due("cut(0, true, 1) 1; cut(1, true, 1) 2; cut(2, true, 1) 3; cut(3, true, 1) 4; cut(4, true, 1) 5");
        x.due("cut(0, false, 1) 6; cut(6, false, 1) 7; cut(7, false, 1) 8; cut(8, false, 1) 9; cut(9, false, 1) 10");
        x.due("cut(1, false, 1) 11; cut(11, false, 1) 12; cut(12, false, 1) 13; cut(13, false, 1) 14; cut(14, false, 1) 15");
        x.due("cut(2, false, 1) 16; cut(16, false, 1) 17; cut(17, false, 1) 18; cut(18, false, 1) 19; cut(19, false, 1) 20");
        x.due("cut(3, false, 1) 21; cut(21, false, 1) 22");
    }

    private static void thePieces(Script x) {
        Check.says("PIECES 0, 1, .. (24 at most) are BLOCKS: at first, and when the FORM is made anew, PIECE 0 is all of it.");
        cutInto23(x);
        x.due("cut(22, false, 1) 23; cut(23, false, 1) FULL", "count(0) 24", "about(23, 0) 3313; about(24, 0) UNKNOWN");
        x.due("form() 36", "count(0) 1", "about(0, 0) 66; about(1, 0) UNKNOWN");
        Check.says("A PIECE STANDS, or it is SOLD, or TASTED.");
        x.form("PPP");
        x.due("cut(0, false, 1) 1; cut(1, false, 1) 2", "sell(1, false) 10; sell(2, true) 10");
        x.due("about(0, 1) 0; about(1, 1) 1; about(2, 1) 2");
        Check.says("A PIECE that STANDS is CUT: across (behind its first x ROWS) or along (behind its first x COLUMNS), "
            + "x 1 and more, fewer than it has: what is ahead keeps its number, the rest is a new PIECE.");
        x.form("PPPP/PPPP/PPPP");
        x.due("cut(0, true, 0) BAD; cut(0, true, 3) BAD; cut(0, false, 0) BAD; cut(0, false, 4) BAD");
        x.due("cut(0, true, 2) 1", "about(0, 0) 24; about(1, 0) 2014", "cut(0, false, 3) 2", "about(0, 0) 23; about(2, 0) 321");
        x.due("sell(2, false) 20; cut(2, true, 1) UNKNOWN");
        Check.says("A SIDE of a PIECE (above, below, left, right) is a BARE one, if it is not the rim of the FORM; "
            + "it has as many EDGES as PLACES lie along it (air, too).");
        x.form("PAP/APA/PAP");
        x.due("about(0, 3) 0", "cut(0, true, 1) 1; cut(1, true, 1) 2", "about(0, 3) 3; about(1, 3) 6; about(2, 3) 3");
        x.due("cut(1, false, 1) 3; cut(3, false, 1) 4", "about(1, 3) 3; about(3, 3) 4; about(4, 3) 3");
    }

    /** The form PAP/APA/PAP goes on: rows 0 and 2 whole, the row between in three. */
    private static void whatDries(Script x) {
        Check.says("HALF HOURS go by (0 at first): each EDGE of a BARE SIDE of a PIECE that STANDS DRIES by 10 a HALF HOUR "
            + "open, 5 in paper, 2 in wax; each BARE SIDE counts by itself.");
        x.due("count(2) 0", "pass(3) 3", "about(3, 4) 120; about(0, 4) 90; about(1, 4) 90", "wrap(0, 1) 0; wrap(2, 2) 0");
        x.due("pass(2) 5; count(2) 5", "about(0, 4) 120; about(2, 4) 102; about(3, 4) 200");
        x.due("sell(3, true) 5", "pass(1) 6", "about(3, 4) 200; about(1, 4) 180");
        Check.says("A PIECE is open, in paper, or in wax (0, 1, 2; open at first; a new one as the one that it was CUT of).");
        x.due("about(1, 6) 0; about(0, 6) 1; about(2, 6) 2", "cut(2, false, 1) 5", "about(2, 6) 2; about(5, 6) 2; wrap(5, 0) 2");
        Check.says("OFF a PIECE is what was trimmed.");
        x.due("about(0, 4) 135; about(0, 5) 0; weighs(0) 17", "trim(0) 3", "about(0, 5) 6; weighs(0) 14");
        Check.says("A PIECE WEIGHS what its PLACES do, less 1 for each 40 that its BARE SIDES DRIED together (cut), "
            + "less what is OFF; 0 at least.");
        x.due("pass(2) 8", "about(0, 4) 30; weighs(0) 14", "pass(1) 9", "about(0, 4) 45; weighs(0) 13", "weighs(1) 0");
        Check.says("CUT, BARE SIDES that stand on both go on: what one that goes along both DRIED is shared by EDGES "
            + "(ahead: that times its EDGES by all, cut; the rest behind); the new BARE SIDES DRIED 0.");
        x.form("PPP/PPP/PPP");
        x.due("cut(0, true, 1) 1", "pass(4) 4", "about(0, 4) 120; about(1, 4) 120", "cut(1, false, 1) 2");
        x.due("about(1, 4) 40; about(2, 4) 80", "cut(2, true, 1) 3", "about(2, 4) 80; about(3, 4) 0");
        x.due("pass(1) 5", "about(0, 4) 150; about(1, 4) 70; about(2, 4) 130; about(3, 4) 30");
        Check.says("OFF is shared by what PLACES weigh (ahead: cut, the rest behind; all behind, if they weigh nothing).");
        x.form("PRA/PPP");
        x.due("cut(0, true, 1) 1", "trim(0) 3; about(0, 5) 3", "cut(0, false, 1) 2", "about(0, 5) 1; about(2, 5) 2");
        x.form("AAP/PPP");
        x.due("cut(0, false, 2) 1; cut(0, true, 1) 2", "trim(0) 0; about(0, 5) 3", "cut(0, false, 1) 3");
        x.due("about(0, 5) 0; about(3, 5) 3");
        Check.says("TRIMMED: what its BARE SIDES DRIED together by 40 (cut) and 1 for each EDGE of its BARE SIDES more is OFF, "
            + "they DRIED 0 then.");
        x.form("PP/PP");
        x.due("cut(0, true, 1) 1; pass(5) 5", "about(0, 4) 100; weighs(0) 18", "trim(0) 2");
        x.due("about(0, 5) 4; about(0, 4) 0; weighs(0) 16", "about(1, 5) 0; about(1, 4) 100");
    }

    private static void theAsks(Script x) {
        Check.says("AN ASK is a weight a (1 .. 360), o over at most (0 .. 99), r PLACES of rind at most (0 .. 36).");
        x.due("stands(0, 0, 0) BAD; stands(361, 0, 0) BAD; stands(1, -1, 0) BAD; stands(1, 100, 0) BAD");
        x.due("stands(1, 0, -1) BAD; stands(1, 0, 37) BAD", "stands(360, 0, 0) NONE; stands(1, 99, 36) 0; stands(1, 0, 0) NONE");
        Check.says("A PIECE that STANDS SERVES it, if it WEIGHS a .. a and o, and has no more than r PLACES of rind.");
        x.form("PR/PP");
        x.due("cut(0, true, 1) 1", "serves(0, 18, 0, 1) 1; serves(0, 18, 0, 0) 0; serves(0, 19, 9, 1) 0");
        x.due("serves(0, 17, 0, 1) 0; serves(0, 17, 1, 1) 1; serves(1, 20, 0, 0) 1", "sell(1, false) 20; serves(1, 20, 0, 0) 0");
        Check.says("TO SERVE: the PIECE that does and WEIGHS least; of like ones the least number.");
        x.form("PPR/PPP/PPP");
        x.due("cut(0, true, 1) 1; cut(1, true, 1) 2", "stands(20, 10, 1) 0; stands(20, 10, 0) 1; stands(60, 0, 0) NONE");
        Check.says("If none does: A CUT by which one of both parts SERVES: of such the one of fewest EDGES (as long as the CUT is); "
            + "of like ones the least PIECE, across ahead of along, the least x; of both parts the one ahead, if it SERVES.");
        x.due("next(30, 0, 0) NONE; next(10, 0, 0) 110; next(18, 0, 1) 111; next(20, 0, 0) 120", "sell(0, false) 28");
        x.due("next(10, 0, 0) 1110; next(20, 0, 0) 1111; next(10, 10, 0) 1110");
        x.form("PP/PP");
        x.due("next(20, 0, 0) 10");
        x.form("PPP/PPP");
        x.due("next(20, 0, 0) 110; next(30, 0, 0) 10; next(20, 10, 0) 110; next(40, 0, 0) 111", "serve(40, 0, 0) 1; about(1, 0) 122");
        Check.says("(No CUT, where 24 PIECES are.)");
        cutInto23(x);
        x.due("next(20, 0, 0) 4120", "cut(22, false, 1) 23", "next(20, 0, 0) NONE; serve(20, 0, 0) NONE; serve(30, 0, 0) 23");
        x.due("two(10, 0, 20, 0, 0) NONE; two(10, 0, 60, 0, 0) 0; twoFirst(10, 0, 60, 0, 0) 0");
    }

    private static void twoAhead(Script x) {
        Check.says("TWO AHEAD, of two ASKS: of ways to serve the first by a PIECE or a CUT (as above: any that SERVES, any part) "
            + "and then the second TO SERVE (as above) the one with fewest EDGES CUT together (a PIECE: 0); of like ones PIECES "
            + "ahead of CUTS, the least PIECE, across ahead of along, the least x, the part ahead before the one behind.");
        x.form("PPP/PPP");
        x.due("next(20, 10, 0) 110", "two(20, 10, 30, 0, 0) 3; twoFirst(20, 10, 30, 0, 0) 100010");
        x.due("two(20, 0, 20, 0, 0) 4; twoFirst(20, 0, 20, 0, 0) 100110", "two(40, 0, 20, 0, 0) 2; twoFirst(40, 0, 20, 0, 0) 100111");
        x.due("cut(0, false, 1) 1", "two(20, 0, 20, 0, 0) 2; twoFirst(20, 0, 20, 0, 0) 0", "two(10, 10, 40, 0, 0) 0");
        x.form("PPRRR");
        x.due("cut(0, false, 2) 1", "stands(8, 12, 3) 0", "two(8, 12, 20, 0, 3) 1; twoFirst(8, 12, 20, 0, 3) 101110");
        Check.says("(The first is SOLD ahead of the second.)");
        x.due("two(20, 0, 20, 0, 3) NONE; two(20, 0, 24, 0, 3) 0; two(20, 0, 24, 0, 2) NONE");
        Check.says("NONE: there is no such way.");
        x.due("twoFirst(20, 0, 20, 0, 3) NONE; twoFirst(20, 0, 24, 0, 2) NONE; two(9, 0, 8, 0, 3) NONE; two(8, 0, 9, 0, 3) NONE");
    }

    /** The form PPRRR goes on, cut behind its second place, which THE WHOLE does not look at. */
    private static void wholeOnes(Script x) {
        Check.says("THE ORDER are ASKS, 4 at most (as they come).");
        x.due("order(20, 0, 3) 1; order(8, 0, 3) 2; order(8, 0, 3) 3; order(8, 0, 3) 4; order(8, 0, 3) FULL", "count(3) 4");
        x.due("whole() 3", "unorder() 4");
        Check.says("THE WHOLE: the shortest wire (EDGES of all CUTS together) by which the FORM as it was at first is CUT so that "
            + "each ASK of THE ORDER has a BLOCK of its own that weighs a .. a and o (PLACES alone) and has no more than r PLACES "
            + "of rind; NONE.");
        x.due("whole() 0", "order(18, 0, 1) 1; whole() 2", "order(10, 0, 0) 2; whole() 2", "order(9, 9, 2) 3; whole() 2");
        x.due("order(16, 0, 1) 4; whole() NONE; first() NONE", "unorder() 4");
        x.due("pass(40) 40; sell(0, true) 10", "order(44, 0, 3) 1; whole() 0; first() NONE", "unorder() 1");
        Check.says("THE FIRST CUT of such a way: across ahead of along, the least x; NONE: none is needed, or there is no way.");
        x.due("order(18, 0, 1) 1; first() 101", "unorder() 1; first() NONE");
        x.form("PPP/PPP");
        x.due("order(30, 0, 0) 1; whole() 3; first() 1", "unorder() 1", "order(20, 0, 0) 1; whole() 2; first() 101");
        x.due("order(60, 0, 0) 2; whole() NONE; first() NONE", "unorder() 2");
        x.form("PP/PP");
        x.due("order(20, 0, 0) 1; whole() 2; first() 1", "unorder() 1");
        Check.says("FAIR by n (1 .. 36): the FORM can be CUT into n BLOCKS of like weight (more than 0) and like PLACES of rind; "
            + "by how short a wire; NONE.");
        x.form("PPP/PPP");
        x.due("fair(0) BAD; fair(37) BAD", "fair(1) 0; fair(2) 3; fair(3) 4; fair(4) NONE; fair(6) 7; fair(36) NONE");
        x.form("RP/PR");
        x.due("fair(2) 2; fair(4) NONE");
        x.form("PAP");
        x.due("fair(2) 1; fair(3) NONE");
    }

    private static void leftAndRipe(Script x) {
        Check.says("LEFT are BLOCKS that are told, 6 at most, none in another one's PLACES.");
        x.form("PPP/PPP/PPP");
        x.due("left(11) 1; left(111) 2; left(211) 3; left(12) LATE; left(1011) 4; left(1111) 5; left(1211) 6; left(2013) FULL");
        x.due("count(4) 6", "unleft() 6");
        Check.says("READ: by how few CUTS of the FORM all of them come to be BLOCKS of their own (other BLOCKS may be anything); "
            + "NONE: by none.");
        x.due("read() 0", "left(12) 1; read() 2", "left(221) 2; left(2112) 3; read() 4", "left(1021) 4; read() NONE", "unleft() 4");
        x.due("left(33) 1; read() 0", "unleft() 1", "left(1111) 1; read() 4", "unleft() 1");
        Check.says("A DAY is 24 HALF HOURS.");
        x.due("ripe(0, 5, true) 8; pass(24) 24; ripe(0, 5, true) 8");
        Check.says("A PLACE of paste is RIPE from DAY b on (b 0 .. 30; 5 at first) and twice as many DAYS as it is PLACES off the "
            + "rim of the FORM (the least of four; a PLACE at the rim is 0 off); for k DAYS (k 1 .. 30; 6 at first).");
        x.due("ripe(0, 4, true) 0; ripe(0, 5, false) 9; ripe(0, 6, true) 8; ripe(0, 7, true) 1; ripe(0, 7, false) 1");
        x.due("ripe(0, 10, true) 1; ripe(0, 10, false) 1; ripe(0, 11, true) 1; ripe(0, 11, false) 9; ripe(0, 12, true) 1");
        x.due("ripe(0, 12, false) 9; ripe(0, 13, true) 0; ripe(0, 13, false) 1");
        x.due("ripens(-1, 1) BAD; ripens(31, 1) BAD; ripens(0, 0) BAD; ripens(0, 31) BAD", "ripens(0, 1) 506");
        x.due("ripe(0, 0, true) 8; ripe(0, 1, true) 0; ripe(0, 2, true) 1; ripe(0, 3, true) 0", "ripens(30, 30) 1; ripens(5, 6) 3030");
        Check.says("A PIECE is RIPE on a DAY by how many of its PLACES of paste are (a FRACTION of these; 0 by 1 without).");
        x.form("PRP/APA/RRP");
        x.due("ripe(0, 5, true) 3; ripe(0, 5, false) 4", "cut(0, true, 1) 1; cut(1, true, 1) 2");
        x.due("ripe(0, 5, true) 1; ripe(0, 5, false) 1; ripe(1, 5, true) 0; ripe(1, 5, false) 1", "cut(1, false, 1) 3");
        x.due("ripe(1, 7, true) 0; ripe(1, 7, false) 1; ripe(3, 7, true) 1");
        Check.says("RIPEST on a DAY: the PIECE that STANDS with the greatest; of like ones the least; NONE: none STANDS.");
        x.due("ripest(5) 0; ripest(12) 3; ripest(0) 0", "sell(0, false) 28; ripest(5) 2; ripest(0) 1", "sell(2, true) 26; ripest(5) 1");
        x.due("sell(1, true) 0; ripest(5) 3", "sell(3, true) 10; ripest(5) NONE");
    }

    private static void books(Script x) {
        Check.says("THE BOOK OF OVERS: rows, 16 at most: up to how much over one takes it (0 .. 99).");
        x.due("count(6) 0", "book(-1) BAD; book(100) BAD", "book(10) 1; book(20) 2; book(0) 3; book(99) 4");
        Check.says("OVER x earns x for each row that takes it, and loses 12 for each that does not.");
        x.due("over(0) 1000; over(1) 991; over(10) 1018; over(11) 998; over(20) 1016; over(21) 985; over(99) 1063");
        Check.says("BEST OVER: 0 .. 99 by which that is most, the least.");
        x.due("bestOver() 99", "book(10) 5; book(10) 6; bestOver() 99; book(10) 7; bestOver() 10", "over(10) 1048; over(99) 1027");
        x.due("book(0) 8; book(0) 9; book(0) 10; book(0) 11; book(0) 12; book(0) 13; book(0) 14; book(0) 15; book(0) 16");
        x.due("book(0) FULL; count(6) 16", "over(10) 940; over(99) 919; bestOver() 0");
        Check.says("THE BOOK OF TASTES: how often one that had t tastes (0 .. 9) bought or not.");
        x.due("taste(-1, true) BAD; taste(10, true) BAD", "taste(3, true) 1; taste(3, false) 2; taste(9, true) 1");
        Check.says("A taste costs 1, who buys brings 20: TASTES t bring 20 times (how often one bought, and 1) by (how often it was, "
            + "and 2), less t, as a FRACTION; BEST TASTES: the t that bring most; of like ones the least.");
        x.due("brings(0, true) 1000010; brings(0, false) 1; brings(3, true) 1000007; brings(3, false) 1");
        x.due("brings(9, true) 1000013; brings(9, false) 3", "bestTaste() 0");
        x.due("taste(0, false) 1; brings(0, true) 1000020; brings(0, false) 3; bestTaste() 1");
        x.due("taste(1, false) 1; brings(1, true) 1000017; brings(1, false) 3; bestTaste() 2");
        x.due("taste(6, true) 1; taste(6, true) 2; taste(6, false) 3; taste(6, true) 4", "brings(6, true) 1000022; brings(6, false) 3");
        x.due("taste(6, true) 5; taste(6, false) 6; taste(6, true) 7; taste(6, true) 8", "brings(6, true) 1000008; bestTaste() 2");
    }

    private static void endsAndSlots(Script x) {
        Check.says("AN END is a PIECE with three SIDES or more that are no BARE SIDES.");
        x.form("PPP/PPP/PPP");
        x.due("about(0, 7) 1", "cut(0, true, 1) 1; about(0, 7) 1; about(1, 7) 1", "cut(1, true, 1) 2; about(1, 7) 0; about(2, 7) 1");
        x.due("cut(0, false, 1) 3; about(0, 7) 0; about(3, 7) 0");
        Check.says("WORTH: what all that STAND WEIGH times p (1 .. 9; 3 at first), ENDS times e (0 .. 9; 1 at first).");
        x.due("worth() 210", "prices(0, 0) BAD; prices(10, 0) BAD; prices(1, -1) BAD; prices(1, 10) BAD", "prices(9, 0) 31; worth() 540");
        x.due("prices(1, 9) 90; worth() 330", "sell(1, false) 30; worth() 300", "prices(3, 1) 19");
        Check.says("SLOTS 0 .. 1 keep all PIECES (and how many HALF HOURS went by).");
        x.due("keep(-1) UNKNOWN; keep(2) UNKNOWN; again(1) LATE", "keep(0) 3", "pass(5) 5; cut(2, false, 1) 4; sell(0, true) 8");
        x.due("keep(1) 3", "again(0) 3; count(0) 4; count(2) 0; about(0, 1) 0; about(1, 1) 1; about(2, 0) 2013; about(2, 4) 0");
        x.due("again(1) 3; count(0) 5; count(2) 5; about(0, 1) 2; about(2, 0) 2011; about(2, 4) 50; about(4, 4) 100");
    }

    /** The slots' second go on: piece 0 is tasted, piece 1 sold; the book of overs is full. */
    private static void refusals(Script x) {
        Check.says("REFUSALS: UNKNOWN -1 (there is no such PIECE, PLACE, SLOT; a PIECE that is asked to be CUT, wrapped, TRIMMED, "
            + "SOLD, TASTED does not STAND), BAD -2, LATE -3, FULL -4.");
        x.due("weighs(5) -1; place(3, 0) -1; keep(2) -1", "cut(0, true, 1) -1; cut(1, false, 1) -1; wrap(1, 1) -1; trim(1) -1");
        x.due("sell(1, false) -1; sell(0, true) -1", "pass(0) -2; wrap(2, 3) -2", "book(5) -4");
        x.text("PX");
        x.due("form() -3", "count(0) 5");
        Check.says("Of several what is told first.");
        x.due("cut(1, false, 0) UNKNOWN; cut(5, true, 0) UNKNOWN; about(5, 8) UNKNOWN; wrap(0, 3) UNKNOWN");
        x.due("serves(5, 0, 0, 0) UNKNOWN; ripe(5, 1000, true) UNKNOWN; book(100) BAD; write(9, 0) BAD");
        Check.says("What is refused changes nothing.");
        x.due("count(0) 5; count(1) 3; count(2) 5; count(3) 0; count(4) 0; count(5) 2; count(6) 16", "about(2, 6) 0; about(2, 5) 0");
        x.due("about(0, 1) 2; about(1, 1) 1; about(1, 6) 0", "place(2, 2) 0; worth() 132");
        Check.says("NONE is -9.");
        x.due("stands(360, 0, 0) -9; next(360, 0, 0) -9; serve(360, 0, 0) -9; two(360, 0, 1, 0, 0) -9; first() -9; fair(7) -9");
        Check.says("FRACTIONS are told above (upper = true), below (1 and more), in least terms (0 by 1); "
            + "refusals of them are told likewise.");
        x.due("ripe(2, 0, true) 0; ripe(2, 0, false) 1; ripe(3, 5, true) 1; ripe(3, 5, false) 1");
        x.due("ripe(5, 5, true) -1; ripe(5, 5, false) -1; ripe(0, 1000, true) -2; ripe(0, 1000, false) -2");
        x.due("brings(10, true) -2; brings(10, false) -2", "brings(8, true) 1000002; brings(8, false) 1");
    }
}
