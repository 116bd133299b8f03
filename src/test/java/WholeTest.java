/** Promises 20 to 27: order, unorder, whole, first, fair, left, read, unleft. */
public final class WholeTest {
    private static final int NONE = WheelAndWire.NONE, BAD = WheelAndWire.BAD, UNKNOWN = WheelAndWire.UNKNOWN;
    private static final int LATE = WheelAndWire.LATE, FULL = WheelAndWire.FULL;
    private static final String LARGE = "PPPPPP/PPPPPP/PPPPPP/PPPPPP/PPPPPP/PPPPPP";

    public static void main(String[] args) {
        ordering();
        theShortestWire();
        theWholeIsTheFormAtFirst();
        eachAskHasABlockOfItsOwn();
        firstCuts();
        fairOrNot();
        fairByRindAndAir();
        leaving();
        reading();
        unreadable();
        Check.end();
    }

    private static void ordering() {
        WheelAndWire x = new WheelAndWire();
        Check.due("unorder()", x.unorder(), 0);
        for (int i = 1; i <= 4; i++) {
            Check.due("order(10, 0, 0)", x.order(10, 0, 0), i);
        }
        Check.due("order(10, 0, 0)", x.order(10, 0, 0), FULL);
        Check.due("order(0, 0, 0)", x.order(0, 0, 0), BAD);
        Check.due("count(3)", x.count(3), 4);
        Check.due("unorder()", x.unorder(), 4);
        Check.due("count(3)", x.count(3), 0);
        Check.due("order(360, 99, 36)", x.order(360, 99, 36), 1);
        Check.due("whole()", x.whole(), NONE);
        x.unorder();
        Check.due("whole() of none", x.whole(), 0);
        Check.due("first() of none", x.first(), NONE);
    }

    private static void theShortestWire() {
        WheelAndWire x = Check.made(LARGE);
        x.order(10, 0, 0);
        Check.due("whole(): a row, a place of it", x.whole(), 7);
        Check.due("first()", x.first(), 1);
        x.order(10, 0, 0);
        Check.due("whole(): a row, two places of it", x.whole(), 8);
        x.order(40, 0, 0);
        Check.due("whole(): the row's rest is the third", x.whole(), 8);
        Check.due("first()", x.first(), 1);
        x.order(300, 0, 0);
        Check.due("whole(): the rest is the fourth", x.whole(), 8);
        x.unorder();
        x.order(70, 0, 0);
        Check.due("whole(): no block of seven", x.whole(), NONE);
        x.unorder();
        x.order(71, 9, 0);
        Check.due("whole(): two by four", x.whole(), 8);
        Check.due("first()", x.first(), 2);
    }

    private static void theWholeIsTheFormAtFirst() {
        WheelAndWire x = Check.made("PP/PP");
        x.order(40, 0, 0);
        x.cut(0, true, 1);
        x.pass(100);
        x.sell(0, false);
        Check.due("whole()", x.whole(), 0);
        Check.due("first()", x.first(), NONE);
        Check.put(x, "PPP/PPP");
        x.form();
        Check.due("whole() of another form", x.whole(), 2);
        Check.due("first() of another form", x.first(), 101);
    }

    private static void eachAskHasABlockOfItsOwn() {
        WheelAndWire x = Check.made("PPPP");
        x.order(10, 30, 0);
        Check.due("whole()", x.whole(), 0);
        x.order(10, 30, 0);
        Check.due("whole()", x.whole(), 1);
        Check.due("first()", x.first(), 101);
        x.order(20, 0, 0);
        Check.due("whole()", x.whole(), 2);
        Check.due("first()", x.first(), 101);
        x.order(10, 0, 0);
        Check.due("whole()", x.whole(), NONE);
        Check.due("first()", x.first(), NONE);
        WheelAndWire y = Check.made("RP/PP");
        y.order(10, 28, 0);
        Check.due("whole(): without rind", y.whole(), 2);
        Check.due("first()", y.first(), 1);
        y.unorder();
        y.order(8, 0, 1);
        Check.due("whole()", y.whole(), 3);
        WheelAndWire z = Check.made("RAP");
        z.order(8, 0, 1);
        Check.due("whole()", z.whole(), 1);
        Check.due("first(): air weighs nothing", z.first(), 101);
    }

    private static void firstCuts() {
        WheelAndWire x = Check.made("PP/PP");
        x.order(20, 0, 0);
        Check.due("first(): across ahead of along", x.first(), 1);
        WheelAndWire y = Check.made("PPPP");
        y.order(20, 10, 0);
        Check.due("first(): the least x", y.first(), 101);
        WheelAndWire z = Check.made("PP/PP/PP/PP");
        z.order(60, 0, 0);
        z.order(20, 0, 0);
        Check.due("whole()", z.whole(), 2);
        Check.due("first()", z.first(), 1);
        z.unorder();
        z.order(40, 0, 0);
        Check.due("first(): the least x by which it is shortest", z.first(), 2);
        WheelAndWire w = Check.made("PR/PR/PR");
        w.order(30, 0, 0);
        Check.due("whole()", w.whole(), 3);
        Check.due("first()", w.first(), 101);
    }

    private static void fairOrNot() {
        WheelAndWire x = Check.made(LARGE);
        int[] wires = {0, 6, 6 + 4, 12, NONE, 18, NONE, NONE, 24, NONE, NONE, 36};
        for (int n = 1; n <= wires.length; n++) {
            Check.due("fair(" + n + ")", x.fair(n), wires[n - 1]);
        }
        Check.due("fair(36)", x.fair(36), 60);
        Check.due("fair(35)", x.fair(35), NONE);
        Check.due("fair(18)", x.fair(18), 42);
        int[] refused = {Integer.MIN_VALUE, -1, 0, 37, Integer.MAX_VALUE};
        for (int n : refused) {
            Check.due("fair(" + n + ")", x.fair(n), BAD);
        }
    }

    private static void fairByRindAndAir() {
        WheelAndWire x = Check.made("RP/PR");
        Check.due("fair(2)", x.fair(2), 2);
        Check.due("fair(4): not alike in weight", x.fair(4), NONE);
        WheelAndWire y = Check.made("RRRRR/PPPPA");
        Check.due("fair(2): alike in weight, not in rind", y.fair(2), NONE);
        WheelAndWire z = Check.made("AA/AA");
        Check.due("fair(1): weighs nothing", z.fair(1), NONE);
        Check.due("fair(2): weighs nothing", z.fair(2), NONE);
        WheelAndWire w = Check.made("PAP");
        Check.due("fair(1)", w.fair(1), 0);
        Check.due("fair(2)", w.fair(2), 1);
        Check.due("fair(3): no block of air alone", w.fair(3), NONE);
        WheelAndWire v = Check.made("PP/PP");
        v.cut(0, true, 1);
        v.sell(0, true);
        Check.due("fair(2): of the form", v.fair(2), 2);
        Check.due("fair(4)", v.fair(4), 4);
    }

    private static void leaving() {
        WheelAndWire x = Check.made("PPP/PPP");
        int[] unknown = {0, 1, 10, -11, 14, 31, 313, 1021, 2011, 10011, 1311, Integer.MAX_VALUE, Integer.MIN_VALUE};
        for (int block : unknown) {
            Check.due("left(" + block + ")", x.left(block), UNKNOWN);
        }
        Check.due("unleft()", x.unleft(), 0);
        Check.due("left(12)", x.left(12), 1);
        Check.due("left(111)", x.left(111), LATE);
        Check.due("left(23)", x.left(23), LATE);
        Check.due("left(12)", x.left(12), LATE);
        Check.due("left(221)", x.left(221), 2);
        Check.due("left(1011)", x.left(1011), 3);
        Check.due("left(1111)", x.left(1111), 4);
        Check.due("count(4)", x.count(4), 4);
        Check.due("unleft()", x.unleft(), 4);
        Check.due("count(4)", x.count(4), 0);
        WheelAndWire y = Check.made("PPPP/PPPP");
        int[] six = {11, 111, 211, 311, 1011, 1111};
        for (int i = 0; i < six.length; i++) {
            Check.due("left(" + six[i] + ")", y.left(six[i]), i + 1);
        }
        Check.due("left(1211)", y.left(1211), FULL);
        Check.due("left(11)", y.left(11), LATE);
        Check.due("left(9)", y.left(9), UNKNOWN);
        Check.due("count(4)", y.count(4), 6);
        Check.due("read()", y.read(), 6);
    }

    private static void reading() {
        WheelAndWire x = Check.made(LARGE);
        Check.due("read() of none", x.read(), 0);
        x.left(66);
        Check.due("read() of all", x.read(), 0);
        x.unleft();
        x.left(1111);
        Check.due("read()", x.read(), 4);
        x.left(1211);
        Check.due("read()", x.read(), 5);
        x.left(3155);
        Check.due("count(4)", x.count(4), 2);
        x.left(3133);
        Check.due("read(): the column left of all first", x.read(), 7);
        x.cut(0, true, 1);
        Check.due("read(): of the form", x.read(), 7);
    }

    /** Four blocks round a place: no cut goes straight through. */
    private static void unreadable() {
        WheelAndWire x = Check.made("PPP/PPP/PPP");
        x.left(12);
        x.left(221);
        x.left(2112);
        Check.due("read()", x.read(), 4);
        x.left(1021);
        Check.due("read()", x.read(), NONE);
        x.unleft();
        Check.due("read()", x.read(), 0);
    }
}
