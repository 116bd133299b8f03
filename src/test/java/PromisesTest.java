/**
 * Promises 1 to 41 in their order, each quoted whole with calls that show it, on one object in one run of no more than
 * 512 calls, so that what an earlier promise did is still there when a later one is looked at.
 */
public final class PromisesTest {
    private static final int MOST_CALLS = 512;

    private final Script x = new Script();

    public static void main(String[] args) {
        PromisesTest all = new PromisesTest();
        all.theForm();
        all.pieces();
        all.dryingAndSelling();
        all.asks();
        all.twoAhead();
        all.theOrder();
        all.fairAndRead();
        all.ripe();
        all.books();
        all.worth();
        all.slots();
        all.counts();
        Check.end();
    }

    private void theForm() {
        Check.says("One PLACE of paste.");
        x.due("count(0) 1; count(1) 1; count(2) 0; count(3) 0; count(4) 0; count(5) 0; count(6) 0");
        x.due("place(0, 0) 0; about(0, 0) 11; weighs(0) 10");
        Check.says("n bytes (1 .. 8) of v, the lowest n, the highest of these first, come behind THE TEXT: how long it is. "
            + "BAD; FULL: it would be longer than 48 (nothing comes).");
        x.due("write(0, 80) BAD; write(9, 80) BAD; write(-1, 80) BAD", "write(2, 0x2F5052) 2; write(3, 0x2F5250) 5");
        x.due("form() 4", "place(0, 0) 0; place(0, 1) 1; place(1, 0) 1; place(1, 1) 0");
        x.due("write(8, 0) 13; write(8, 0) 21; write(8, 0) 29; write(8, 0) 37; write(8, 0) 45; write(4, 0) FULL; count(5) 45");
        x.due("write(3, 0) 48; write(1, 0) FULL; write(9, 0) BAD");
        Check.says("THE TEXT is empty: how long it was.");
        x.due("wipe() 48; count(5) 0; wipe() 0", "place(1, 1) 0");
        Check.says("FAULT; NONE.");
        x.due("fault() 0", "write(3, 0x50522F) 3; fault() 3", "write(2, 0x4150) 5; fault() NONE", "write(1, 0x41) 6; fault() 5");
        Check.says("THE TEXT is the FORM (HALF HOURS 0, what was kept is gone; ORDER, BOOKS stay, BLOCKS that are LEFT are gone): "
            + "how many PLACES. LATE: a FAULT.");
        x.due("form() LATE; place(1, 0) 1", "wipe() 6; form() LATE", "order(10, 0, 0) 1; book(7) 1; taste(4, true) 1; left(11) 1");
        x.due("pass(9) 9; keep(0) 1; keep(1) 1; cut(0, true, 1) 1; wrap(0, 2) 0", "whole() 3; first() 1; read() 2");
        x.form("RRRR/RPPR/RPPR/RRRR");
        x.due("count(0) 1; count(1) 1; count(2) 0; count(3) 1; count(4) 0; count(5) 19; count(6) 1", "again(0) LATE; again(1) LATE");
        x.due("about(0, 0) 44; about(0, 6) 0", "over(7) 1007; brings(4, true) 1000028; brings(4, false) 3", "whole() 9; first() 2; read() 0; unorder() 1");
        Check.says("A PLACE: 0 paste, 1 rind, 2 air. UNKNOWN.");
        x.due("place(0, 0) 1; place(1, 1) 0; place(3, 3) 1", "place(4, 3) UNKNOWN; place(3, 4) UNKNOWN; place(-1, 0) UNKNOWN");
        x.due("place(0, -1) UNKNOWN");
    }

    /** Of RRRR/RPPR/RPPR/RRRR: 0 is the first two rows' first two columns, 2 their last two, 1 the rows below. */
    private void pieces() {
        Check.says("A CUT (across or along): the number of the new PIECE. UNKNOWN: piece; BAD: x; FULL: 24.");
        x.due("cut(1, true, 1) UNKNOWN; cut(-1, true, 1) UNKNOWN; cut(0, true, 0) BAD; cut(0, true, 4) BAD; cut(0, false, 4) BAD");
        x.due("cut(0, true, 2) 1; cut(0, false, 2) 2; cut(0, true, 2) BAD");
        Check.says("Of a PIECE its BLOCK (what = 0), 0 STANDS, 1 SOLD, 2 TASTED (1), PLACES of rind (2), EDGES of BARE SIDES (3), "
            + "what its BARE SIDES DRIED together (4), OFF (5), how it is wrapped (6), whether it is AN END: 1, 0 (7). "
            + "UNKNOWN: piece (any); BAD.");
        x.due("about(0, 0) 22; about(1, 0) 2024; about(2, 0) 222", "about(0, 1) 0; about(1, 2) 6; about(2, 2) 3");
        x.due("about(0, 3) 4; about(1, 3) 4; about(2, 3) 4", "about(0, 4) 0; about(0, 5) 0; about(0, 6) 0");
        x.due("about(0, 7) 0; about(1, 7) 1; about(2, 7) 0", "about(3, 0) UNKNOWN; about(-1, 9) UNKNOWN; about(0, 8) BAD; about(0, -1) BAD");
        Check.says("What a PIECE WEIGHS. UNKNOWN: piece (any).");
        x.due("weighs(0) 34; weighs(1) 68; weighs(2) 34; weighs(3) UNKNOWN; weighs(-1) UNKNOWN");
    }

    private void dryingAndSelling() {
        Check.says("So many HALF HOURS (1 .. 999) go by: how many have (at most 9999, else BAD).");
        x.due("pass(0) BAD; pass(1000) BAD; pass(-1) BAD", "pass(6) 6; about(0, 4) 240; about(1, 4) 240; weighs(0) 28; weighs(1) 62");
        Check.says("A PIECE is wrapped: how it was. UNKNOWN; BAD: 0 .. 2.");
        x.due("wrap(3, 1) UNKNOWN; wrap(0, 3) BAD; wrap(0, -1) BAD; wrap(3, 3) UNKNOWN", "wrap(0, 1) 0; wrap(2, 2) 0; wrap(0, 1) 1");
        x.due("pass(2) 8", "about(0, 4) 280; about(1, 4) 320; about(2, 4) 256", "weighs(0) 27; weighs(1) 60; weighs(2) 28");
        Check.says("A PIECE is TRIMMED: what it WEIGHS less by that. UNKNOWN.");
        x.due("trim(3) UNKNOWN; trim(-1) UNKNOWN", "trim(2) 4; about(2, 5) 10; about(2, 4) 0; weighs(2) 24; weighs(0) 27");
        Check.says("A PIECE is SOLD, or TASTED: what it WEIGHS. UNKNOWN.");
        x.due("sell(2, true) 24; about(2, 1) 2; sell(2, false) UNKNOWN; trim(2) UNKNOWN; wrap(2, 0) UNKNOWN; cut(2, true, 1) UNKNOWN");
        x.due("sell(3, false) UNKNOWN", "pass(1) 9; about(2, 4) 0; weighs(2) 24; about(0, 4) 300; about(1, 4) 360");
    }

    /** Piece 0 weighs 27 with 3 places of rind, piece 1 (RPPR/RRRR, dried 90 an edge) 59 with 6. */
    private void asks() {
        Check.says("Whether a PIECE SERVES an ASK: 1, 0. UNKNOWN: piece (any); BAD: a, o, r.");
        x.due("serves(0, 27, 0, 3) 1; serves(0, 27, 0, 2) 0; serves(0, 28, 0, 3) 0; serves(0, 26, 0, 3) 0; serves(0, 20, 7, 3) 1");
        x.due("serves(2, 24, 0, 36) 0; serves(3, 1, 0, 0) UNKNOWN; serves(3, 0, 0, 0) UNKNOWN; serves(2, 0, 0, 0) BAD");
        x.due("serves(0, 1, 100, 0) BAD; serves(0, 1, 0, 37) BAD");
        Check.says("TO SERVE: the PIECE; NONE (none does, or it needs a CUT). BAD.");
        x.due("stands(20, 40, 6) 0; stands(28, 40, 6) 1; stands(28, 40, 5) NONE; stands(8, 2, 36) NONE; stands(0, 1, 1) BAD");
        Check.says("The CUT TO SERVE, if no PIECE does: 1000 times the PIECE, 100 if it is along, 10 times x, and 1 if it is the part "
            + "behind that SERVES; NONE. BAD.");
        x.due("next(27, 0, 3) NONE; next(13, 0, 2) 11; next(15, 0, 3) 10; next(14, 0, 2) 1110; next(14, 0, 1) NONE; next(30, 0, 3) 1120");
        x.due("next(46, 0, 4) 1111; next(32, 0, 4) 1011; next(27, 0, 2) 1010; next(360, 99, 36) NONE; next(361, 0, 0) BAD");
        Check.says("It is SERVED (CUT, if need be): the PIECE that is SOLD; NONE: none can be. BAD.");
        x.due("serve(361, 0, 0) BAD; serve(360, 99, 36) NONE; count(0) 3", "serve(27, 0, 2) 1; about(1, 0) 2014; about(1, 1) 1; count(0) 4");
        x.due("about(3, 0) 3014; about(3, 1) 0; weighs(3) 32; about(1, 4) 360; about(3, 4) 0", "serve(27, 5, 9) 0; about(0, 1) 1");
        x.due("serve(16, 0, 1) NONE; serve(16, 0, 2) 3; about(3, 0) 3012; about(4, 0) 3212; count(0) 5; count(1) 1");
    }

    private void twoAhead() {
        Check.says("TWO AHEAD: how many EDGES are CUT together; NONE. BAD: as an ASK each (r for both).");
        x.due("two(8, 0, 8, 0, 1) 1; two(16, 0, 8, 0, 2) NONE; two(8, 0, 16, 0, 2) NONE", "two(0, 0, 8, 0, 1) BAD; two(8, 0, 361, 0, 1) BAD");
        x.due("two(8, 100, 8, 0, 1) BAD; two(8, 0, 8, -1, 1) BAD; two(8, 0, 8, 0, 37) BAD; two(8, 0, 8, 0, 0) NONE");
        Check.says("What the first is served by then: the PIECE, or 100000 and the CUT (as next()); NONE. BAD.");
        x.due("twoFirst(8, 0, 8, 0, 1) 104110; twoFirst(16, 0, 8, 0, 2) NONE; twoFirst(8, 0, 8, 0, -1) BAD; count(0) 5");
        x.form("PPPR/PPPR/PPPP");
        x.due("two(26, 0, 30, 0, 2) 6; twoFirst(26, 0, 30, 0, 2) 100131", "two(38, 0, 20, 0, 1) 6; twoFirst(38, 0, 20, 0, 1) 100010");
        x.due("two(38, 0, 30, 0, 1) NONE; twoFirst(38, 0, 30, 0, 1) NONE; two(40, 0, 38, 0, 1) 8; twoFirst(40, 0, 38, 0, 1) 100021");
    }

    private void theOrder() {
        Check.says("An ASK more of THE ORDER: how many there are. BAD; FULL: 4.");
        x.due("order(0, 0, 0) BAD; order(1, 100, 0) BAD; order(1, 0, 37) BAD; count(3) 0", "order(28, 0, 1) 1; order(40, 0, 0) 2");
        Check.says("THE WHOLE; NONE.");
        x.due("whole() 7; cut(0, false, 1) 1; pass(77) 77; whole() 7");
        Check.says("THE FIRST CUT: 100 if it is along, and x; NONE.");
        x.due("first() 1", "order(16, 0, 2) 3; order(20, 99, 0) 4; order(1, 0, 0) FULL; order(0, 0, 0) BAD", "whole() NONE; first() NONE");
        Check.says("THE ORDER is empty: how long it was.");
        x.due("unorder() 4; count(3) 0; unorder() 0; whole() 0; first() NONE", "order(16, 9, 2) 1; whole() 4; first() 101; unorder() 1");
    }

    private void fairAndRead() {
        Check.says("FAIR: the shortest wire; NONE. BAD: n.");
        x.due("fair(1) 0; fair(2) NONE; fair(36) NONE; fair(37) BAD; fair(0) BAD; fair(-1) BAD");
        x.form("PPRR/RRPP");
        x.due("fair(2) 2; fair(4) 6; fair(8) NONE");
        Check.says("A BLOCK that is LEFT: how many there are. UNKNOWN: it is not of the FORM; LATE: some PLACE is in another one; "
            + "FULL: 6.");
        x.due("left(15) UNKNOWN; left(31) UNKNOWN; left(2011) UNKNOWN; left(411) UNKNOWN; left(0) UNKNOWN; left(-11) UNKNOWN");
        x.due("left(11) 1; left(21) LATE; left(112) 2; left(1111) 3; left(1012) LATE; left(1011) 4; left(1211) 5; left(1311) 6");
        x.due("left(311) FULL; left(24) LATE; left(14) LATE; left(15) UNKNOWN; count(4) 6");
        Check.says("READ; NONE.");
        x.due("read() 6; cut(0, true, 1) 1; read() 6");
        Check.says("BLOCKS that are LEFT are gone: how many there were.");
        x.due("unleft() 6; count(4) 0; unleft() 0; read() 0", "left(112) 1; read() 3; left(22) LATE; left(1012) 2; read() 4; unleft() 2");
    }

    private void ripe() {
        Check.says("b and k of what is RIPE: 100 times b, and k that they were. BAD.");
        x.due("ripens(31, 6) BAD; ripens(-1, 6) BAD; ripens(5, 0) BAD; ripens(5, 31) BAD", "ripens(2, 3) 506; ripens(2, 3) 203");
        Check.says("RIPE on a DAY. UNKNOWN: piece (any); BAD: day (0 .. 999).");
        x.form("PPPPP/PRPPP/PPPPP");
        x.due("ripe(0, 1, true) 0; ripe(0, 1, false) 1; ripe(0, 2, true) 6; ripe(0, 2, false) 7; ripe(0, 4, true) 1; ripe(0, 4, false) 1");
        x.due("ripe(0, 5, true) 1; ripe(0, 5, false) 7; ripe(0, 7, true) 0; ripe(0, 999, true) 0; ripe(0, 1000, true) BAD");
        x.due("ripe(0, -1, false) BAD; ripe(1, 4, true) UNKNOWN; ripe(-1, -1, false) UNKNOWN", "cut(0, true, 1) 1; cut(1, true, 1) 2");
        x.due("cut(1, false, 2) 3; sell(1, true) 18; ripe(1, 3, true) 1; ripe(1, 3, false) 1; ripe(3, 3, true) 1; ripe(3, 3, false) 3");
        Check.says("RIPEST; NONE. BAD.");
        x.due("ripest(3) 0; ripest(5) 3; ripest(7) 0; ripest(1000) BAD; ripest(-1) BAD", "sell(0, false) 50; ripest(3) 2");
        x.due("sell(2, true) 50; ripest(3) 3; sell(3, false) 30; ripest(3) NONE; ripest(-1) BAD");
    }

    /** Promise 5 left one row of 7, and one that had 4 tastes and bought. */
    private void books() {
        Check.says("A row of THE BOOK OF OVERS: how many. BAD; FULL.");
        x.due("book(-1) BAD; book(100) BAD; book(50) 2; book(3) 3; book(7) 4; count(6) 4");
        Check.says("What OVER x earns (below 0 it loses), and 1000. BAD: x (0 .. 99).");
        x.due("over(0) 1000; over(3) 1012; over(4) 1000; over(7) 1009; over(8) 972; over(50) 1014; over(51) 952; over(99) 952");
        x.due("over(100) BAD; over(-1) BAD");
        Check.says("BEST OVER.");
        x.due("bestOver() 50; book(8) 5; over(3) 1015; over(7) 1016; over(50) 1002; bestOver() 7; book(3) 6; over(3) 1018; over(7) 1004");
        x.due("bestOver() 3");
        Check.says("One that had t tastes bought, or not: how often one that had as many was there. BAD.");
        x.due("taste(-1, true) BAD; taste(10, false) BAD; taste(4, false) 2; taste(4, true) 3; taste(9, false) 1; taste(9, false) 2");
        Check.says("What TASTES t bring (above is told as 1000000 more, always, as it may be less than 0). BAD.");
        x.due("brings(4, true) 1000008; brings(4, false) 1; brings(9, true) 999996; brings(9, false) 1; brings(0, true) 1000010");
        x.due("brings(10, true) BAD; brings(10, false) BAD; brings(-1, true) BAD", "taste(9, false) 3; brings(9, true) 999995; brings(9, false) 1");
        x.due("taste(9, true) 4; brings(9, true) 999993; brings(9, false) 3");
        Check.says("BEST TASTES.");
        x.due("bestTaste() 0; taste(0, false) 1; bestTaste() 1; taste(1, false) 1; taste(2, false) 1; bestTaste() 4");
    }

    private void worth() {
        Check.says("p and e: 10 times p, and e that they were. BAD.");
        x.due("prices(0, 1) BAD; prices(10, 1) BAD; prices(3, -1) BAD; prices(3, 10) BAD; prices(5, 2) 31; prices(5, 2) 52");
        Check.says("WORTH.");
        x.due("worth() 0", "form() 15; worth() 296", "cut(0, false, 2) 1; worth() 296; cut(1, true, 1) 2; worth() 566; pass(4) 4; worth() 515");
        x.due("weighs(0) 55; weighs(1) 26; weighs(2) 55; about(0, 7) 1; about(1, 7) 0", "sell(0, false) 55; worth() 405; sell(1, true) 26");
        x.due("sell(2, true) 55; worth() 0");
    }

    private void slots() {
        Check.says("They are kept: how many PIECES STAND. UNKNOWN.");
        x.due("keep(2) UNKNOWN; keep(-1) UNKNOWN; keep(1) 0", "form() 15; again(1) LATE; cut(0, true, 2) 1; wrap(1, 2) 0; pass(10) 10; keep(1) 2");
        x.due("trim(0) 5; cut(1, false, 4) 2; sell(0, true) 81; pass(5) 15; keep(0) 2");
        Check.says("They are as they were kept: how many PIECES STAND. UNKNOWN; LATE: none were kept.");
        x.due("again(1) 2; count(0) 2; count(2) 10; about(0, 1) 0; about(0, 5) 0; about(0, 4) 500; about(1, 0) 2015; about(1, 4) 100");
        x.due("about(1, 6) 2; about(2, 0) UNKNOWN", "again(0) 2; count(0) 3; count(2) 15; about(0, 1) 2; about(0, 5) 17; about(2, 4) 40");
        x.due("again(2) UNKNOWN; again(-1) UNKNOWN; form() 15; again(0) LATE; again(1) LATE");
        Check.says("how many have (at most 9999, else BAD)");
        x.due("pass(999) 999; pass(999) 1998; pass(999) 2997; pass(999) 3996; pass(999) 4995; pass(999) 5994; pass(999) 6993");
        x.due("keep(0) 1; pass(999) 7992; pass(999) 8991; pass(999) 9990; pass(10) BAD; pass(9) 9999; pass(1) BAD; count(2) 9999");
        x.due("again(0) 1; pass(1) 6994; form() 15; count(2) 0");
    }

    private void counts() {
        Check.says("0 PIECES, 1 those that STAND, 2 HALF HOURS, 3 ASKS of THE ORDER, 4 BLOCKS that are LEFT, 5 bytes of THE TEXT, "
            + "6 rows of THE BOOK OF OVERS. BAD.");
        x.due("cut(0, true, 1) 1; cut(0, false, 1) 2; sell(0, false) 10; pass(3) 3; order(9, 9, 9) 1; order(8, 8, 8) 2; left(11) 1");
        x.due("count(0) 3; count(1) 2; count(2) 3; count(3) 2; count(4) 1; count(5) 17; count(6) 6; count(7) BAD; count(-1) BAD");
        Check.says("An object is used for at most 512 calls after it has been made");
        String[] asked = {"worth() 375", "whole() 5", "first() 101", "read() 2", "fair(2) NONE", "ripest(2) 2", "bestTaste() 4"};
        for (int i = 0; x.calls() < MOST_CALLS; i++) {
            x.due(asked[i % asked.length]);
        }
        Check.due("how many calls the run has", x.calls(), MOST_CALLS);
    }
}
