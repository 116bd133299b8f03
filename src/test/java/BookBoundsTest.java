/** Where both BOOKS, prices and ENDS end: the fifth section and promises 31 to 38, sentence by sentence. */
public final class BookBoundsTest {
    private static final int BAD = WheelAndWire.BAD, FULL = WheelAndWire.FULL;
    private static final int MIN = Integer.MIN_VALUE, MAX = Integer.MAX_VALUE;

    public static void main(String[] args) {
        sixteenRowsAtMost();
        rowsOf0To99();
        takesOrNot();
        oversThatAreAsked();
        theMostAndTheLeastItEarns();
        bestOver();
        tastesOf0To9();
        howOften();
        whatTastesBring();
        below0();
        bestTastes();
        pOf1To9AndEOf0To9();
        threeSidesOrMore();
        worthOfWhatStands();
        worthAtItsMost();
        Check.end();
    }

    private static WheelAndWire booked(int... limits) {
        WheelAndWire x = new WheelAndWire();
        for (int i = 0; i < limits.length; i++) {
            Check.due("book(" + limits[i] + ")", x.book(limits[i]), i + 1);
        }
        return x;
    }

    private static void sixteenRowsAtMost() {
        Check.says("THE BOOK OF OVERS: rows, 16 at most");
        WheelAndWire x = new WheelAndWire();
        for (int i = 1; i <= 16; i++) {
            Check.due("book(10)", x.book(10), i);
            Check.due("count(6)", x.count(6), i);
        }
        Check.due("over(10)", x.over(10), 1160);
        Check.says("A row of THE BOOK OF OVERS: how many. BAD; FULL.");
        Check.due("book(10): a 17th", x.book(10), FULL);
        Check.due("book(0): a 17th", x.book(0), FULL);
        Check.due("book(99): a 17th", x.book(99), FULL);
        int[] wrong = {MIN, -1, 100, MAX};
        for (int limit : wrong) {
            Check.due("book(" + limit + "): BAD ahead of FULL", x.book(limit), BAD);
        }
        Check.due("count(6)", x.count(6), 16);
        Check.due("over(10): as it was", x.over(10), 1160);
        Check.due("over(11): as it was", x.over(11), 1000 - 16 * 12);
    }

    private static void rowsOf0To99() {
        Check.says("up to how much over one takes it (0 .. 99)");
        WheelAndWire x = new WheelAndWire();
        int[] wrong = {MIN, -99, -1, 100, 101, MAX};
        for (int limit : wrong) {
            Check.due("book(" + limit + ")", x.book(limit), BAD);
        }
        Check.due("count(6)", x.count(6), 0);
        Check.due("book(0)", x.book(0), 1);
        Check.due("book(99)", x.book(99), 2);
        Check.due("book(1)", x.book(1), 3);
        Check.due("book(98)", x.book(98), 4);
    }

    private static void takesOrNot() {
        Check.says("OVER x earns x for each row that takes it, and loses 12 for each that does not");
        WheelAndWire x = booked(7);
        Check.due("over(6)", x.over(6), 1006);
        Check.due("over(7)", x.over(7), 1007);
        Check.due("over(8)", x.over(8), 988);
        WheelAndWire none = booked(0);
        Check.due("over(0)", none.over(0), 1000);
        Check.due("over(1)", none.over(1), 988);
        WheelAndWire all = booked(99);
        Check.due("over(98)", all.over(98), 1098);
        Check.due("over(99)", all.over(99), 1099);
        WheelAndWire three = booked(3, 5, 5);
        Check.due("over(3)", three.over(3), 1009);
        Check.due("over(4)", three.over(4), 996);
        Check.due("over(5)", three.over(5), 998);
        Check.due("over(6)", three.over(6), 964);
    }

    private static void oversThatAreAsked() {
        Check.says("What OVER x earns (below 0 it loses), and 1000. BAD: x (0 .. 99).");
        WheelAndWire x = new WheelAndWire();
        int[] wrong = {MIN, -1, 100, 101, MAX};
        for (int over : wrong) {
            Check.due("over(" + over + ")", x.over(over), BAD);
        }
        Check.due("over(0) of no row", x.over(0), 1000);
        Check.due("over(99) of no row", x.over(99), 1000);
    }

    private static void theMostAndTheLeastItEarns() {
        Check.says("(below 0 it loses), and 1000");
        WheelAndWire most = new WheelAndWire();
        WheelAndWire least = new WheelAndWire();
        for (int i = 0; i < 16; i++) {
            most.book(99);
            least.book(0);
        }
        Check.due("over(99) that all take", most.over(99), 1000 + 16 * 99);
        Check.due("over(99) that none takes", least.over(99), 1000 - 16 * 12);
        Check.due("over(0) that all take", least.over(0), 1000);
    }

    private static void bestOver() {
        Check.says("BEST OVER: 0 .. 99 by which that is most, the least.");
        Check.due("bestOver() of no row: all alike", booked().bestOver(), 0);
        Check.says("BEST OVER.");
        Check.due("bestOver()", booked(0).bestOver(), 0);
        Check.due("bestOver()", booked(1).bestOver(), 1);
        Check.due("bestOver()", booked(98).bestOver(), 98);
        Check.due("bestOver(): the greatest there is", booked(99).bestOver(), 99);
        Check.due("bestOver(): 18 twice, or 48 and a loss, the least", booked(48, 18).bestOver(), 18);
        Check.due("bestOver(): 17 twice is less", booked(48, 17).bestOver(), 48);
        Check.due("bestOver(): 12 and a loss are 0, as 0 is", booked(12, 0).bestOver(), 0);
        Check.due("bestOver(): 13 and a loss are 1", booked(13, 0).bestOver(), 13);
        Check.due("bestOver(): 11 and a loss are below 0", booked(11, 0).bestOver(), 0);
    }

    private static void brings(WheelAndWire x, int t, long above, long below) {
        Check.due("brings(" + t + ", true)", x.brings(t, true), above);
        Check.due("brings(" + t + ", false)", x.brings(t, false), below);
    }

    private static void tastesOf0To9() {
        Check.says("THE BOOK OF TASTES: how often one that had t tastes (0 .. 9) bought or not.");
        WheelAndWire x = new WheelAndWire();
        int[] wrong = {MIN, -1, 10, 11, MAX};
        for (int t : wrong) {
            Check.due("taste(" + t + ", true)", x.taste(t, true), BAD);
            Check.due("taste(" + t + ", false)", x.taste(t, false), BAD);
            Check.says("(above is told as 1000000 more, always, as it may be less than 0). BAD.");
            brings(x, t, BAD, BAD);
        }
        for (int t = 0; t <= 9; t++) {
            brings(x, t, 1000010 - t, 1);
        }
        for (int t = 0; t <= 9; t++) {
            Check.due("taste(" + t + ", true)", x.taste(t, true), 1);
        }
    }

    private static void howOften() {
        Check.says("One that had t tastes bought, or not: how often one that had as many was there. BAD.");
        WheelAndWire x = new WheelAndWire();
        for (int i = 1; i <= 400; i++) {
            Check.due("taste(9, ..)", x.taste(9, i % 4 == 0), i);
        }
        Check.due("taste(8, true): each t by itself", x.taste(8, true), 1);
        Check.due("taste(0, false)", x.taste(0, false), 1);
        brings(x, 9, 1000000 - 799, 201);
        Check.says("An object is used for at most 512 calls after it has been made");
        WheelAndWire last = new WheelAndWire();
        for (int i = 1; i <= 512; i++) {
            Check.due("taste(0, true), call " + i, last.taste(0, true), i);
        }
    }

    private static void whatTastesBring() {
        Check.says("20 times (how often one bought, and 1) by (how often it was, and 2), less t, as a FRACTION");
        WheelAndWire x = new WheelAndWire();
        brings(x, 0, 1000010, 1);
        brings(x, 9, 1000001, 1);
        x.taste(0, false);
        brings(x, 0, 1000020, 3);
        x.taste(0, true);
        brings(x, 0, 1000010, 1);
        x.taste(3, true);
        brings(x, 3, 1000031, 3);
        x.taste(3, true);
        brings(x, 3, 1000012, 1);
    }

    private static void below0() {
        Check.says("(above is told as 1000000 more, always, as it may be less than 0)");
        WheelAndWire x = new WheelAndWire();
        x.taste(9, false);
        brings(x, 9, 1000000 - 7, 3);
        x.taste(9, false);
        brings(x, 9, 1000000 - 4, 1);
        Check.says("FRACTIONS are told above (upper = true), below (1 and more), in least terms (0 by 1)");
        x.taste(5, false);
        brings(x, 5, 1000005, 3);
        x.taste(5, false);
        brings(x, 5, 1000000, 1);
        x.taste(5, false);
        brings(x, 5, 1000000 - 1, 1);
        for (int i = 0; i < 3; i++) {
            x.taste(5, false);
        }
        brings(x, 5, 1000000 - 5, 2);
    }

    private static void bestTastes() {
        Check.says("BEST TASTES: the t that bring most; of like ones the least.");
        WheelAndWire x = new WheelAndWire();
        Check.due("bestTaste() of no row", x.bestTaste(), 0);
        x.taste(2, true);
        x.taste(2, true);
        Check.due("bestTaste(): 13 against 10", x.bestTaste(), 2);
        x.taste(2, false);
        brings(x, 2, 1000010, 1);
        Check.due("bestTaste(): 10 and 10", x.bestTaste(), 0);
        x.taste(0, false);
        Check.due("bestTaste(): 10 of 2, 9 of 1", x.bestTaste(), 2);
        Check.says("BEST TASTES.");
        for (int t = 0; t <= 9; t++) {
            WheelAndWire one = new WheelAndWire();
            for (int i = 0; i < 40; i++) {
                one.taste(t, true);
            }
            Check.due("bestTaste() of 40 that bought with " + t, one.bestTaste(), t);
        }
        WheelAndWire nine = new WheelAndWire();
        for (int i = 0; i < 18; i++) {
            nine.taste(9, true);
        }
        brings(nine, 9, 1000010, 1);
        Check.due("bestTaste(): 19 of 20 less 9 are 10, as 0 is", nine.bestTaste(), 0);
        nine.taste(9, true);
        Check.due("bestTaste(): the greatest t there is", nine.bestTaste(), 9);
        WheelAndWire low = new WheelAndWire();
        for (int t = 0; t <= 9; t++) {
            for (int i = 0; i < 38; i++) {
                low.taste(t, false);
            }
        }
        brings(low, 0, 1000001, 2);
        brings(low, 1, 1000000 - 1, 2);
        Check.due("bestTaste()", low.bestTaste(), 0);
        low.taste(1, true);
        Check.due("bestTaste()", low.bestTaste(), 0);
        low.taste(2, true);
        low.taste(0, false);
        Check.due("bestTaste(): all but 0 are below 0", low.bestTaste(), 0);
    }

    private static void pOf1To9AndEOf0To9() {
        Check.says("p and e: 10 times p, and e that they were. BAD.");
        WheelAndWire x = new WheelAndWire();
        int[][] wrong = {{0, 1}, {10, 1}, {-1, 1}, {3, -1}, {3, 10}, {MIN, 1}, {MAX, 1}, {3, MIN}, {3, MAX}, {0, -1}, {10, 10}};
        for (int[] k : wrong) {
            Check.due("prices(" + k[0] + ", " + k[1] + ")", x.prices(k[0], k[1]), BAD);
        }
        Check.says("times p (1 .. 9; 3 at first), ENDS times e (0 .. 9; 1 at first)");
        Check.due("prices(1, 0)", x.prices(1, 0), 31);
        Check.due("worth(): the one piece is an end", x.worth(), 0);
        Check.due("prices(9, 9)", x.prices(9, 9), 10);
        Check.due("worth()", x.worth(), 90);
        Check.due("prices(1, 9)", x.prices(1, 9), 99);
        Check.due("worth()", x.worth(), 90);
        Check.due("prices(9, 0)", x.prices(9, 0), 19);
        for (int[] k : wrong) {
            Check.due("prices(" + k[0] + ", " + k[1] + ")", x.prices(k[0], k[1]), BAD);
        }
        Check.due("worth()", x.worth(), 0);
        Check.due("prices(2, 8)", x.prices(2, 8), 90);
        Check.due("prices(3, 1)", x.prices(3, 1), 28);
    }

    private static void threeSidesOrMore() {
        Check.says("AN END is a PIECE with three SIDES or more that are no BARE SIDES.");
        WheelAndWire x = Check.made("PPP/PPP/PPP");
        Check.due("about(0, 7): four", x.about(0, 7), 1);
        x.cut(0, true, 1);
        Check.due("about(0, 7): three", x.about(0, 7), 1);
        Check.due("about(1, 7): three", x.about(1, 7), 1);
        x.cut(1, true, 1);
        Check.due("about(1, 7): left and right", x.about(1, 7), 0);
        Check.due("about(2, 7): three", x.about(2, 7), 1);
        x.cut(0, false, 1);
        Check.due("about(0, 7): above and left", x.about(0, 7), 0);
        Check.due("about(3, 7): above and right", x.about(3, 7), 0);
        x.cut(1, false, 1);
        Check.due("about(1, 7): left", x.about(1, 7), 0);
        x.cut(4, false, 1);
        Check.due("about(4, 7): none", x.about(4, 7), 0);
        WheelAndWire row = Check.made("PPP");
        row.cut(0, false, 1);
        row.cut(1, false, 1);
        Check.due("about(0, 7): all but right", row.about(0, 7), 1);
        Check.due("about(1, 7): above and below", row.about(1, 7), 0);
        Check.due("about(2, 7): all but left", row.about(2, 7), 1);
        Check.due("worth()", row.worth(), 10 + 30 + 10);
        WheelAndWire column = Check.made("P/P/P");
        column.cut(0, true, 1);
        column.cut(1, true, 1);
        Check.due("about(0, 7): all but below", column.about(0, 7), 1);
        Check.due("about(1, 7): left and right", column.about(1, 7), 0);
        Check.due("about(2, 7): all but above", column.about(2, 7), 1);
    }

    private static void worthOfWhatStands() {
        Check.says("WORTH: what all that STAND WEIGH times p");
        WheelAndWire x = Check.made("PPP");
        x.cut(0, false, 1);
        x.cut(1, false, 1);
        x.pass(2);
        Check.due("worth(): the one in the middle dried 40", x.worth(), 10 + 27 + 10);
        x.sell(1, false);
        Check.due("worth()", x.worth(), 20);
        x.sell(0, true);
        Check.due("worth()", x.worth(), 10);
        x.sell(2, true);
        Check.due("worth(): none stands", x.worth(), 0);
    }

    private static void worthAtItsMost() {
        Check.says("WORTH.");
        WheelAndWire x = Check.made("PPPPPP/PPPPPP/PPPPPP/PPPPPP/PPPPPP/PPPPPP");
        x.prices(9, 9);
        Check.due("worth()", x.worth(), 3240);
        x.cut(0, true, 3);
        Check.due("worth()", x.worth(), 3240);
        Check.due("worth() of air", Check.made("AA").worth(), 0);
    }
}
