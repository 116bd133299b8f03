/** Promises 28 to 38: ripens, ripe, ripest, book, over, bestOver, taste, brings, bestTaste, prices, worth. */
public final class BooksTest {
    private static final int NONE = WheelAndWire.NONE, BAD = WheelAndWire.BAD, UNKNOWN = WheelAndWire.UNKNOWN;
    private static final int FULL = WheelAndWire.FULL;
    private static final int[] WILD = {Integer.MIN_VALUE, -1, 1000, Integer.MAX_VALUE};

    public static void main(String[] args) {
        ripening();
        ripeByDays();
        ripeOfSoldOnes();
        theRipest();
        overs();
        tastes();
        pricing();
        worth();
        Check.end();
    }

    private static void ripening() {
        WheelAndWire x = new WheelAndWire();
        Check.due("ripens(0, 1)", x.ripens(0, 1), 506);
        Check.due("ripens(30, 30)", x.ripens(30, 30), 1);
        int[][] refused = {{-1, 1}, {31, 1}, {0, 0}, {0, 31}, {0, -1}, {Integer.MAX_VALUE, Integer.MIN_VALUE}};
        for (int[] k : refused) {
            Check.due("ripens(" + k[0] + ", " + k[1] + ")", x.ripens(k[0], k[1]), BAD);
        }
        Check.due("ripens(5, 6)", x.ripens(5, 6), 3030);
    }

    private static void ripe(WheelAndWire x, int piece, int day, long above, long below) {
        Check.due("ripe(" + piece + ", " + day + ", true)", x.ripe(piece, day, true), above);
        Check.due("ripe(" + piece + ", " + day + ", false)", x.ripe(piece, day, false), below);
    }

    private static void ripeByDays() {
        WheelAndWire x = Check.made("PPPR/PPPP/APPP");
        ripe(x, 0, 4, 0, 1);
        ripe(x, 0, 5, 4, 5);
        ripe(x, 0, 6, 4, 5);
        ripe(x, 0, 7, 1, 1);
        ripe(x, 0, 10, 1, 1);
        ripe(x, 0, 11, 1, 5);
        ripe(x, 0, 12, 1, 5);
        ripe(x, 0, 13, 0, 1);
        ripe(x, 0, 0, 0, 1);
        ripe(x, 0, 999, 0, 1);
        x.ripens(0, 1);
        ripe(x, 0, 0, 4, 5);
        ripe(x, 0, 1, 0, 1);
        ripe(x, 0, 2, 1, 5);
        ripe(x, 0, -1, BAD, BAD);
        ripe(x, 0, 1000, BAD, BAD);
        ripe(x, 1, 1000, UNKNOWN, UNKNOWN);
        ripe(x, -1, 5, UNKNOWN, UNKNOWN);
    }

    /** The rim is the form's, not the piece's; without paste it is 0 by 1. */
    private static void ripeOfSoldOnes() {
        WheelAndWire x = Check.made("RPR/RPR/RPR/RPP");
        x.cut(0, false, 1);
        x.cut(1, true, 3);
        ripe(x, 0, 5, 0, 1);
        ripe(x, 1, 5, 1, 3);
        ripe(x, 2, 5, 1, 1);
        ripe(x, 1, 12, 2, 3);
        x.sell(1, true);
        x.pass(999);
        ripe(x, 1, 12, 2, 3);
    }

    private static void theRipest() {
        WheelAndWire x = Check.made("RPR/RPR/RPR/RPP");
        Check.due("ripest(5)", x.ripest(5), 0);
        Check.due("ripest(0): of like ones the least", x.ripest(0), 0);
        x.cut(0, false, 1);
        x.cut(1, true, 3);
        Check.due("ripest(5)", x.ripest(5), 2);
        Check.due("ripest(12)", x.ripest(12), 1);
        Check.due("ripest(100): all 0", x.ripest(100), 0);
        Check.due("ripest(8): 1 and 2 alike", x.ripest(8), 1);
        x.sell(2, false);
        Check.due("ripest(5)", x.ripest(5), 1);
        x.sell(1, true);
        Check.due("ripest(5)", x.ripest(5), 0);
        x.sell(0, true);
        Check.due("ripest(5)", x.ripest(5), NONE);
        for (int day : WILD) {
            Check.due("ripest(" + day + ")", x.ripest(day), BAD);
        }
        Check.due("ripest(999)", x.ripest(999), NONE);
    }

    private static void overs() {
        WheelAndWire x = new WheelAndWire();
        Check.due("over(0)", x.over(0), 1000);
        Check.due("over(99)", x.over(99), 1000);
        Check.due("bestOver()", x.bestOver(), 0);
        int[] refused = {Integer.MIN_VALUE, -1, 100, Integer.MAX_VALUE};
        for (int limit : refused) {
            Check.due("book(" + limit + ")", x.book(limit), BAD);
            Check.due("over(" + limit + ")", x.over(limit), BAD);
        }
        Check.due("book(99)", x.book(99), 1);
        Check.due("over(99)", x.over(99), 1099);
        Check.due("bestOver()", x.bestOver(), 99);
        for (int i = 2; i <= 16; i++) {
            Check.due("book(0)", x.book(0), i);
        }
        Check.due("book(5)", x.book(5), FULL);
        Check.due("book(100)", x.book(100), BAD);
        Check.due("count(6)", x.count(6), 16);
        Check.due("over(0)", x.over(0), 1000);
        Check.due("over(1)", x.over(1), 1000 + 1 - 15 * 12);
        Check.due("over(99)", x.over(99), 1000 + 99 - 15 * 12);
        Check.due("bestOver(): each other loses", x.bestOver(), 0);
        likeOvers();
    }

    /** 12 from both and 24 from one earn 24 and 12; 18 from both and 48 from one earn 36 each. */
    private static void likeOvers() {
        WheelAndWire x = new WheelAndWire();
        x.book(18);
        x.book(48);
        Check.due("over(18)", x.over(18), 1036);
        Check.due("over(48)", x.over(48), 1036);
        Check.due("bestOver(): the least", x.bestOver(), 18);
        x.book(60);
        Check.due("over(48)", x.over(48), 1084);
        Check.due("bestOver()", x.bestOver(), 48);
    }

    private static void brings(WheelAndWire x, int t, long above, long below) {
        Check.due("brings(" + t + ", true)", x.brings(t, true), above);
        Check.due("brings(" + t + ", false)", x.brings(t, false), below);
    }

    private static void tastes() {
        WheelAndWire x = new WheelAndWire();
        int[] refused = {Integer.MIN_VALUE, -1, 10, Integer.MAX_VALUE};
        for (int t : refused) {
            Check.due("taste(" + t + ", true)", x.taste(t, true), BAD);
            brings(x, t, BAD, BAD);
        }
        brings(x, 0, 1000010, 1);
        brings(x, 9, 1000001, 1);
        Check.due("bestTaste()", x.bestTaste(), 0);
        for (int i = 1; i <= 10; i++) {
            Check.due("taste(9, false)", x.taste(9, false), i);
        }
        brings(x, 9, 1000000 - 22, 3);
        Check.due("taste(9, true)", x.taste(9, true), 11);
        brings(x, 9, 1000000 - 77, 13);
        Check.due("taste(5, false)", x.taste(5, false), 1);
        brings(x, 5, 1000005, 3);
        Check.due("taste(5, false)", x.taste(5, false), 2);
        brings(x, 5, 1000000, 1);
        Check.due("taste(0, false)", x.taste(0, false), 1);
        brings(x, 0, 1000020, 3);
        Check.due("bestTaste()", x.bestTaste(), 1);
        brings(x, 1, 1000009, 1);
        Check.due("taste(2, true)", x.taste(2, true), 1);
        brings(x, 2, 1000034, 3);
        Check.due("bestTaste()", x.bestTaste(), 2);
        likeTastes();
    }

    /** 20 by 2 less 0, and 20 times 3 by 5 less 2, are 10 both. */
    private static void likeTastes() {
        WheelAndWire x = new WheelAndWire();
        x.taste(2, true);
        x.taste(2, true);
        x.taste(2, false);
        brings(x, 2, 1000010, 1);
        brings(x, 0, 1000010, 1);
        Check.due("bestTaste(): of like ones the least", x.bestTaste(), 0);
    }

    private static void pricing() {
        WheelAndWire x = new WheelAndWire();
        Check.due("prices(9, 9)", x.prices(9, 9), 31);
        Check.due("prices(1, 0)", x.prices(1, 0), 99);
        int[][] refused = {{0, 0}, {10, 0}, {1, -1}, {1, 10}, {-1, 5}, {Integer.MAX_VALUE, Integer.MIN_VALUE}};
        for (int[] k : refused) {
            Check.due("prices(" + k[0] + ", " + k[1] + ")", x.prices(k[0], k[1]), BAD);
        }
        Check.due("prices(3, 1)", x.prices(3, 1), 10);
    }

    private static void worth() {
        WheelAndWire x = Check.made("PPP/PPP/PPP");
        Check.due("worth(): all of it is an end", x.worth(), 90);
        x.cut(0, true, 1);
        Check.due("worth(): two ends", x.worth(), 90);
        x.cut(1, true, 1);
        Check.due("worth(): two sides at the rim are no end", x.worth(), 30 + 90 + 30);
        x.cut(0, false, 1);
        Check.due("worth(): a corner is no end", x.worth(), 150 + 60);
        x.prices(5, 0);
        Check.due("worth()", x.worth(), 5 * (30 + 30));
        x.pass(4);
        Check.due("worth()", x.worth(), 5 * (8 + 24 + 17));
        x.sell(1, false);
        Check.due("worth()", x.worth(), 5 * (8 + 17));
        x.sell(0, true);
        x.sell(2, true);
        x.sell(3, true);
        Check.due("worth() of none", x.worth(), 0);
    }
}
