/** Where DAYS, b, k and RIPE end: the second half of the fourth section and promises 28 to 30, sentence by sentence. */
public final class RipeBoundsTest {
    private static final int NONE = WheelAndWire.NONE, BAD = WheelAndWire.BAD, UNKNOWN = WheelAndWire.UNKNOWN;
    private static final int MIN = Integer.MIN_VALUE, MAX = Integer.MAX_VALUE;
    private static final int[] NO_DAYS = {MIN, -1, 1000, 1001, MAX};

    public static void main(String[] args) {
        bAndK();
        fromDayBForKDays();
        twiceAsManyDays();
        theLeastOfFour();
        earliestAndLatest();
        pasteAlone();
        leastTerms();
        withoutPaste();
        daysThatAreAsked();
        greatestIsRipest();
        ofLikeOnesTheLeast();
        noneStands();
        halfHoursAreNoDays();
        Check.end();
    }

    private static void ripe(WheelAndWire x, int piece, int day, long above, long below) {
        Check.due("ripe(" + piece + ", " + day + ", true)", x.ripe(piece, day, true), above);
        Check.due("ripe(" + piece + ", " + day + ", false)", x.ripe(piece, day, false), below);
    }

    private static void bAndK() {
        Check.says("b and k of what is RIPE: 100 times b, and k that they were. BAD.");
        WheelAndWire x = new WheelAndWire();
        int[][] wrong = {{-1, 6}, {31, 6}, {MIN, 6}, {MAX, 6}, {5, 0}, {5, -1}, {5, 31}, {5, MIN}, {5, MAX}, {-1, 0}, {31, 31}};
        for (int[] k : wrong) {
            Check.due("ripens(" + k[0] + ", " + k[1] + ")", x.ripens(k[0], k[1]), BAD);
        }
        Check.says("(b 0 .. 30; 5 at first)");
        Check.due("ripens(0, 1)", x.ripens(0, 1), 506);
        Check.due("ripens(30, 30)", x.ripens(30, 30), 1);
        Check.due("ripens(0, 30)", x.ripens(0, 30), 3030);
        Check.due("ripens(30, 1)", x.ripens(30, 1), 30);
        Check.due("ripens(1, 2)", x.ripens(1, 2), 3001);
        Check.due("ripens(29, 29)", x.ripens(29, 29), 102);
        for (int[] k : wrong) {
            Check.due("ripens(" + k[0] + ", " + k[1] + ")", x.ripens(k[0], k[1]), BAD);
        }
        Check.due("ripens(5, 6)", x.ripens(5, 6), 2929);
    }

    private static void fromDayBForKDays() {
        Check.says("A PLACE of paste is RIPE from DAY b on");
        WheelAndWire x = new WheelAndWire();
        ripe(x, 0, 4, 0, 1);
        ripe(x, 0, 5, 1, 1);
        Check.says("for k DAYS (k 1 .. 30; 6 at first)");
        ripe(x, 0, 10, 1, 1);
        ripe(x, 0, 11, 0, 1);
        x.ripens(7, 1);
        ripe(x, 0, 6, 0, 1);
        ripe(x, 0, 7, 1, 1);
        ripe(x, 0, 8, 0, 1);
        x.ripens(0, 2);
        ripe(x, 0, 0, 1, 1);
        ripe(x, 0, 1, 1, 1);
        ripe(x, 0, 2, 0, 1);
    }

    /** The middle of a form of five by five: 16 at the rim, 8 one off, 1 two off. */
    private static void twiceAsManyDays() {
        Check.says("and twice as many DAYS as it is PLACES off the rim of the FORM");
        WheelAndWire x = Check.made("PPPPP/PPPPP/PPPPP/PPPPP/PPPPP");
        x.ripens(10, 1);
        ripe(x, 0, 9, 0, 1);
        ripe(x, 0, 10, 16, 25);
        ripe(x, 0, 11, 0, 1);
        ripe(x, 0, 12, 8, 25);
        ripe(x, 0, 13, 0, 1);
        ripe(x, 0, 14, 1, 25);
        ripe(x, 0, 15, 0, 1);
        x.ripens(10, 3);
        ripe(x, 0, 12, 24, 25);
        ripe(x, 0, 14, 9, 25);
        ripe(x, 0, 16, 1, 25);
        ripe(x, 0, 17, 0, 1);
    }

    /** A single place of paste on each place of a form of six by six. */
    private static void theLeastOfFour() {
        Check.says("(the least of four; a PLACE at the rim is 0 off)");
        for (int row = 0; row < 6; row++) {
            for (int column = 0; column < 6; column++) {
                StringBuilder text = new StringBuilder("AAAAAA/AAAAAA/AAAAAA/AAAAAA/AAAAAA/AAAAAA");
                text.setCharAt(7 * row + column, 'P');
                WheelAndWire x = Check.made(text.toString());
                boolean rim = row == 0 || row == 5 || column == 0 || column == 5;
                boolean middle = row > 1 && row < 4 && column > 1 && column < 4;
                int from = rim ? 5 : middle ? 9 : 7;
                ripe(x, 0, from - 1, 0, 1);
                ripe(x, 0, from, 1, 1);
                ripe(x, 0, from + 5, 1, 1);
                ripe(x, 0, from + 6, 0, 1);
            }
        }
        WheelAndWire tall = Check.made("AAA/AAA/AAA/APA/AAA/AAA");
        ripe(tall, 0, 6, 0, 1);
        ripe(tall, 0, 7, 1, 1);
    }

    private static void earliestAndLatest() {
        Check.says("for k DAYS (k 1 .. 30; 6 at first)");
        WheelAndWire x = Check.made("AAAAA/AAAAA/AAPAA/AAAAA/AAAAA");
        x.ripens(30, 30);
        ripe(x, 0, 33, 0, 1);
        ripe(x, 0, 34, 1, 1);
        ripe(x, 0, 63, 1, 1);
        ripe(x, 0, 64, 0, 1);
        x.ripens(0, 30);
        ripe(x, 0, 3, 0, 1);
        ripe(x, 0, 4, 1, 1);
        ripe(x, 0, 33, 1, 1);
        ripe(x, 0, 34, 0, 1);
    }

    private static void pasteAlone() {
        Check.says("by how many of its PLACES of paste are (a FRACTION of these");
        WheelAndWire x = Check.made("PRA/PPP/ARP");
        ripe(x, 0, 5, 4, 5);
        ripe(x, 0, 7, 1, 1);
        ripe(x, 0, 11, 1, 5);
        x.cut(0, true, 1);
        ripe(x, 0, 5, 1, 1);
        ripe(x, 1, 5, 3, 4);
        x.sell(0, true);
        x.sell(1, false);
        ripe(x, 0, 5, 1, 1);
        ripe(x, 1, 11, 1, 4);
    }

    private static void leastTerms() {
        Check.says("FRACTIONS are told above (upper = true), below (1 and more), in least terms (0 by 1)");
        WheelAndWire x = Check.made("PPPPPP/PPPPPP/PPPPPP/PPPPPP/PPPPPP/PPPPPP");
        ripe(x, 0, 5, 5, 9);
        ripe(x, 0, 7, 8, 9);
        ripe(x, 0, 9, 1, 1);
        ripe(x, 0, 11, 4, 9);
        ripe(x, 0, 13, 1, 9);
        ripe(x, 0, 15, 0, 1);
    }

    private static void withoutPaste() {
        Check.says("0 by 1 without");
        String[] texts = {"R", "A", "RRR/RAR/RRR"};
        for (String text : texts) {
            WheelAndWire x = Check.made(text);
            ripe(x, 0, 0, 0, 1);
            ripe(x, 0, 5, 0, 1);
            ripe(x, 0, 999, 0, 1);
        }
    }

    private static void daysThatAreAsked() {
        Check.says("RIPE on a DAY. UNKNOWN: piece (any); BAD: day (0 .. 999).");
        WheelAndWire x = Check.made("PP");
        ripe(x, 0, 0, 0, 1);
        ripe(x, 0, 999, 0, 1);
        Check.due("ripest(0)", x.ripest(0), 0);
        Check.due("ripest(999)", x.ripest(999), 0);
        int[] none = {MIN, -1, 1, 24, MAX};
        Check.says("refusals of them are told likewise");
        for (int day : NO_DAYS) {
            ripe(x, 0, day, BAD, BAD);
            Check.due("ripest(" + day + ")", x.ripest(day), BAD);
            for (int piece : none) {
                ripe(x, piece, day, UNKNOWN, UNKNOWN);
            }
        }
        for (int piece : none) {
            ripe(x, piece, 5, UNKNOWN, UNKNOWN);
        }
    }

    private static void greatestIsRipest() {
        Check.says("the PIECE that STANDS with the greatest");
        WheelAndWire x = Check.made("PPP/PPP/PPP");
        x.cut(0, true, 1);
        x.cut(1, true, 1);
        x.cut(1, false, 1);
        x.cut(3, false, 1);
        Check.due("about(3, 0): the one in the middle", x.about(3, 0), 1111);
        Check.due("ripest(11)", x.ripest(11), 3);
        Check.due("ripest(12)", x.ripest(12), 3);
        WheelAndWire shares = Check.made("PPPPP/PPPPP/PPPPP/PPPPP/PPPPP");
        shares.cut(0, true, 4);
        shares.cut(0, false, 2);
        ripe(shares, 0, 5, 5, 8);
        ripe(shares, 1, 5, 1, 1);
        ripe(shares, 2, 5, 1, 2);
        Check.due("ripest(5)", shares.ripest(5), 1);
        shares.sell(1, true);
        Check.due("ripest(5): 5 by 8, not 6 by 12", shares.ripest(5), 0);
        shares.sell(0, false);
        Check.due("ripest(5)", shares.ripest(5), 2);
    }

    private static void ofLikeOnesTheLeast() {
        Check.says("of like ones the least; NONE: none STANDS");
        WheelAndWire x = Check.made("RPPP");
        x.cut(0, false, 1);
        x.cut(1, false, 1);
        Check.due("ripest(0): none is ripe", x.ripest(0), 0);
        Check.due("ripest(5): 1 and 2 alike", x.ripest(5), 1);
        x.sell(1, false);
        Check.due("ripest(5)", x.ripest(5), 2);
        x.sell(0, false);
        Check.due("ripest(0)", x.ripest(0), 2);
    }

    private static void noneStands() {
        Check.says("NONE: none STANDS");
        WheelAndWire x = Check.made("PP");
        x.cut(0, false, 1);
        x.sell(0, false);
        Check.due("ripest(5)", x.ripest(5), 1);
        x.sell(1, true);
        Check.due("ripest(5)", x.ripest(5), NONE);
        Check.due("ripest(0)", x.ripest(0), NONE);
        Check.due("ripest(999)", x.ripest(999), NONE);
        Check.says("RIPEST; NONE. BAD.");
        for (int day : NO_DAYS) {
            Check.due("ripest(" + day + ")", x.ripest(day), BAD);
        }
    }

    private static void halfHoursAreNoDays() {
        Check.says("RIPE on a DAY.");
        WheelAndWire x = Check.made("P/P");
        x.cut(0, true, 1);
        x.pass(24);
        ripe(x, 0, 4, 0, 1);
        ripe(x, 0, 5, 1, 1);
        Check.due("ripest(5)", x.ripest(5), 0);
    }
}
