/** Promises 39 to 41: keep, again, count. */
public final class SlotsTest {
    private static final int BAD = WheelAndWire.BAD, UNKNOWN = WheelAndWire.UNKNOWN, LATE = WheelAndWire.LATE;

    public static void main(String[] args) {
        slotsThatAreNone();
        allPiecesAreKept();
        slotsAreTheirOwn();
        whatIsNotKeptStays();
        counts();
        Check.end();
    }

    private static void slotsThatAreNone() {
        WheelAndWire x = new WheelAndWire();
        int[] slots = {Integer.MIN_VALUE, -1, 2, Integer.MAX_VALUE};
        for (int slot : slots) {
            Check.due("keep(" + slot + ")", x.keep(slot), UNKNOWN);
            Check.due("again(" + slot + ")", x.again(slot), UNKNOWN);
        }
        Check.due("again(0)", x.again(0), LATE);
        Check.due("again(1)", x.again(1), LATE);
    }

    private static String told(WheelAndWire x) {
        StringBuilder all = new StringBuilder();
        all.append(x.count(0)).append(' ').append(x.count(1)).append(' ').append(x.count(2));
        for (int piece = 0; piece < x.count(0); piece++) {
            for (int what = 0; what < 8; what++) {
                all.append(' ').append(x.about(piece, what));
            }
            all.append(' ').append(x.weighs(piece)).append(';');
        }
        return all.toString();
    }

    private static void allPiecesAreKept() {
        WheelAndWire x = Check.made("PRP/PPP/RPA");
        x.cut(0, true, 2);
        x.cut(0, false, 1);
        x.wrap(2, 2);
        x.pass(17);
        x.trim(0);
        x.pass(3);
        x.sell(1, true);
        String was = told(x);
        Check.due("keep(0)", x.keep(0), 2);
        Check.holds("keep changes nothing", was.equals(told(x)));
        x.pass(5);
        x.wrap(0, 1);
        x.trim(2);
        x.cut(2, false, 1);
        x.sell(0, false);
        Check.due("again(0)", x.again(0), 2);
        Check.holds("all is as it was kept", was.equals(told(x)));
        x.sell(0, false);
        x.pass(9);
        Check.due("again(0) once more", x.again(0), 2);
        Check.holds("all is as it was kept, once more", was.equals(told(x)));
        Check.due("cut(2, true, 1)", x.cut(2, true, 1), 3);
    }

    private static void slotsAreTheirOwn() {
        WheelAndWire x = Check.made("PP/PP");
        x.keep(0);
        x.cut(0, true, 1);
        x.pass(2);
        x.keep(1);
        x.cut(1, false, 1);
        Check.due("again(0)", x.again(0), 1);
        Check.due("count(2)", x.count(2), 0);
        Check.due("again(1)", x.again(1), 2);
        Check.due("count(2)", x.count(2), 2);
        x.sell(0, false);
        Check.due("keep(0) anew", x.keep(0), 1);
        x.again(1);
        Check.due("again(0)", x.again(0), 1);
        Check.due("about(0, 1)", x.about(0, 1), 1);
        x.form();
        Check.due("again(0) after form()", x.again(0), LATE);
    }

    private static void whatIsNotKeptStays() {
        WheelAndWire x = Check.made("PP/PP");
        x.keep(1);
        x.order(10, 0, 0);
        x.left(11);
        x.book(3);
        x.ripens(1, 1);
        x.prices(2, 2);
        x.write(1, 'P');
        x.again(1);
        int[] due = {1, 1, 0, 1, 1, 6, 1};
        for (int what = 0; what < due.length; what++) {
            Check.due("count(" + what + ")", x.count(what), due[what]);
        }
        Check.due("ripens(1, 1)", x.ripens(1, 1), 101);
        Check.due("prices(2, 2)", x.prices(2, 2), 22);
    }

    private static void counts() {
        WheelAndWire x = Check.made("PP/PP");
        x.cut(0, true, 1);
        x.cut(1, false, 1);
        x.sell(0, false);
        x.pass(11);
        x.order(10, 0, 0);
        x.order(10, 0, 0);
        x.left(11);
        x.book(1);
        x.book(2);
        x.book(3);
        int[] due = {3, 2, 11, 2, 1, 5, 3};
        for (int what = 0; what < due.length; what++) {
            Check.due("count(" + what + ")", x.count(what), due[what]);
        }
        int[] refused = {Integer.MIN_VALUE, -1, 7, Integer.MAX_VALUE};
        for (int what : refused) {
            Check.due("count(" + what + ")", x.count(what), BAD);
        }
    }
}
