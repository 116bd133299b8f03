/** Promises 1 to 6: a new object, write, wipe, fault, form, place. */
public final class FormTest {
    public static void main(String[] args) {
        aNewObject();
        writing();
        writingTooMuch();
        wiping();
        faults();
        makingTheFormAnew();
        aFaultyTextChangesNothing();
        places();
        Check.end();
    }

    private static void aNewObject() {
        WheelAndWire x = new WheelAndWire();
        Check.due("place(0, 0)", x.place(0, 0), 0);
        Check.due("place(0, 1)", x.place(0, 1), WheelAndWire.UNKNOWN);
        Check.due("place(1, 0)", x.place(1, 0), WheelAndWire.UNKNOWN);
        Check.due("about(0, 0)", x.about(0, 0), 11);
        Check.due("about(0, 1)", x.about(0, 1), 0);
        Check.due("about(0, 7)", x.about(0, 7), 1);
        Check.due("weighs(0)", x.weighs(0), 10);
        Check.due("worth()", x.worth(), 10);
        int[] counts = {1, 1, 0, 0, 0, 0, 0};
        for (int what = 0; what < counts.length; what++) {
            Check.due("count(" + what + ")", x.count(what), counts[what]);
        }
        Check.due("again(0)", x.again(0), WheelAndWire.LATE);
        Check.due("ripens(5, 6)", x.ripens(5, 6), 506);
        Check.due("prices(3, 1)", x.prices(3, 1), 31);
    }

    private static void writing() {
        WheelAndWire x = new WheelAndWire();
        Check.due("write(3, P/R)", x.write(3, 0x502F52L), 3);
        Check.due("write(1, ..A)", x.write(1, 0x505050505050502FL), 4);
        Check.due("write(1, A)", x.write(1, 0x5241L), 5);
        Check.due("form()", x.form(), 3);
        Check.due("place(0, 0)", x.place(0, 0), 0);
        Check.due("place(1, 0)", x.place(1, 0), 1);
        Check.due("place(2, 0)", x.place(2, 0), 2);
        Check.due("write(0, 80)", x.write(0, 80), WheelAndWire.BAD);
        Check.due("write(9, 80)", x.write(9, 80), WheelAndWire.BAD);
        Check.due("write(-1, 80)", x.write(-1, 80), WheelAndWire.BAD);
        Check.due("write(min, 80)", x.write(Integer.MIN_VALUE, 80), WheelAndWire.BAD);
        Check.due("write(max, 80)", x.write(Integer.MAX_VALUE, 80), WheelAndWire.BAD);
        Check.due("count(5)", x.count(5), 5);
        x.wipe();
        Check.due("write(8, PPP/RRR/)", x.write(8, 0x5050502F5252522FL), 8);
        Check.due("write(3, AAA)", x.write(3, 0x414141L), 11);
        Check.due("form()", x.form(), 9);
        Check.due("place(1, 2)", x.place(1, 2), 1);
        Check.due("place(2, 0)", x.place(2, 0), 2);
        x.wipe();
        Check.due("write(8, -1)", x.write(8, -1L), 8);
        Check.due("fault()", x.fault(), 0);
    }

    private static void writingTooMuch() {
        WheelAndWire x = new WheelAndWire();
        for (int i = 1; i <= 5; i++) {
            Check.due("write(8, ..)", x.write(8, 0L), 8 * i);
        }
        Check.due("write(7, ..)", x.write(7, 0L), 47);
        Check.due("write(2, ..)", x.write(2, 0L), WheelAndWire.FULL);
        Check.due("count(5)", x.count(5), 47);
        Check.due("write(1, ..)", x.write(1, 0L), 48);
        Check.due("write(1, ..)", x.write(1, 0L), WheelAndWire.FULL);
        Check.due("write(9, ..)", x.write(9, 0L), WheelAndWire.BAD);
        Check.due("wipe()", x.wipe(), 48);
        Check.due("write(1, ..)", x.write(1, 0L), 1);
    }

    private static void wiping() {
        WheelAndWire x = Check.made("PR");
        Check.due("wipe()", x.wipe(), 2);
        Check.due("wipe()", x.wipe(), 0);
        Check.due("count(5)", x.count(5), 0);
        Check.due("place(0, 1)", x.place(0, 1), 1);
    }

    private static void faults() {
        faulty("", 0);
        faulty("/", 0);
        faulty("p", 0);
        faulty(" P", 0);
        faulty("P", WheelAndWire.NONE);
        faulty("PRAPRA", WheelAndWire.NONE);
        faulty("PRAPRAP", 6);
        faulty("PRAPRA/", 7);
        faulty("PX", 1);
        faulty("P//", 2);
        faulty("P/P", WheelAndWire.NONE);
        faulty("P/PP", 3);
        faulty("PP/P", 4);
        faulty("PP/P/", 4);
        faulty("PP/PP", WheelAndWire.NONE);
        faulty("PP/PPX", 5);
        faulty("PP/PX", 4);
        faulty("P/P/P/P/P/P", WheelAndWire.NONE);
        faulty("P/P/P/P/P/P/", 11);
        faulty("P/P/P/P/P/PP", 11);
        faulty("P/P/P/P/P/", 10);
        faulty("PPPPPP/RRRRRR/AAAAAA/PPPPPP/RRRRRR/AAAAAA", WheelAndWire.NONE);
        faulty("PPPPPP/RRRRRR/AAAAAA/PPPPPP/RRRRRR/AAAAAA/PPPPPP", 41);
        faulty("PPPPPP/RRRRRR/AAAAAA/PPPPPP/RRRRRR/AAAAA", 40);
        faulty("P\u0000", 1);
        faulty("P\u00D0", 1);
    }

    private static void faulty(String text, int fault) {
        WheelAndWire x = new WheelAndWire();
        Check.put(x, text);
        Check.due("fault() of " + text, x.fault(), fault);
        int places = text.replace("/", "").length();
        Check.due("form() of " + text, x.form(), fault == WheelAndWire.NONE ? places : WheelAndWire.LATE);
    }

    private static void makingTheFormAnew() {
        WheelAndWire x = Check.made("PP/PP");
        x.cut(0, true, 1);
        x.wrap(0, 2);
        x.pass(7);
        x.trim(0);
        x.sell(1, false);
        x.keep(0);
        x.keep(1);
        x.order(10, 0, 0);
        x.left(11);
        x.book(4);
        x.taste(1, true);
        x.ripens(1, 2);
        x.prices(7, 2);
        Check.put(x, "PPR");
        Check.due("form()", x.form(), 3);
        int[] counts = {1, 1, 0, 1, 0, 3, 1};
        for (int what = 0; what < counts.length; what++) {
            Check.due("count(" + what + ")", x.count(what), counts[what]);
        }
        int[] abouts = {13, 0, 1, 0, 0, 0, 0, 1};
        for (int what = 0; what < abouts.length; what++) {
            Check.due("about(0, " + what + ")", x.about(0, what), abouts[what]);
        }
        Check.due("again(0)", x.again(0), WheelAndWire.LATE);
        Check.due("again(1)", x.again(1), WheelAndWire.LATE);
        Check.due("whole()", x.whole(), 1);
        Check.due("brings(1, true)", x.brings(1, true), 1000037);
        Check.due("ripens(1, 2)", x.ripens(1, 2), 102);
        Check.due("worth()", x.worth(), 56);
        Check.due("fault()", x.fault(), WheelAndWire.NONE);
        x.cut(0, false, 1);
        Check.due("form() again", x.form(), 3);
        Check.due("count(0)", x.count(0), 1);
    }

    private static void aFaultyTextChangesNothing() {
        WheelAndWire x = Check.made("PP/PR");
        x.cut(0, true, 1);
        x.pass(3);
        x.keep(1);
        x.left(11);
        x.write(1, '/');
        Check.due("form()", x.form(), WheelAndWire.LATE);
        Check.due("count(0)", x.count(0), 2);
        Check.due("count(2)", x.count(2), 3);
        Check.due("count(4)", x.count(4), 1);
        Check.due("count(5)", x.count(5), 6);
        Check.due("again(1)", x.again(1), 2);
        Check.due("place(1, 1)", x.place(1, 1), 1);
    }

    private static void places() {
        WheelAndWire x = Check.made("PRA/APR");
        int[][] kinds = {{0, 1, 2}, {2, 0, 1}};
        for (int row = -1; row <= 6; row++) {
            for (int column = -1; column <= 6; column++) {
                boolean there = row >= 0 && row < 2 && column >= 0 && column < 3;
                int due = there ? kinds[row][column] : WheelAndWire.UNKNOWN;
                Check.due("place(" + row + ", " + column + ")", x.place(row, column), due);
            }
        }
        Check.due("place(max, max)", x.place(Integer.MAX_VALUE, Integer.MAX_VALUE), WheelAndWire.UNKNOWN);
        Check.due("place(min, 0)", x.place(Integer.MIN_VALUE, 0), WheelAndWire.UNKNOWN);
    }
}
