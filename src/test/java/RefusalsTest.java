import java.util.function.Consumer;
import java.util.function.ToLongFunction;

/**
 * The sixth section: what each refusal is, which of several is told first, and that what is refused changes nothing;
 * nor does what only asks, nor a serve by which nobody is served.
 */
public final class RefusalsTest {
    private static final int UNKNOWN = WheelAndWire.UNKNOWN, BAD = WheelAndWire.BAD, LATE = WheelAndWire.LATE;
    private static final int FULL = WheelAndWire.FULL, NONE = WheelAndWire.NONE;
    private static final int[] FAR = {Integer.MIN_VALUE, -1000, -2, -1, 1000, 10000, Integer.MAX_VALUE};

    public static void main(String[] args) {
        theConstants();
        Check.says("What is refused changes nothing.");
        writes();
        forms();
        cuts();
        tellingOfPieces();
        passing();
        wraps();
        trimsAndSales();
        asks();
        orders();
        fairs();
        lefts();
        ripe();
        books();
        prices();
        slots();
        farNumbers();
        whatOnlyAsks();
        Check.end();
    }

    // ---- what is there when the call comes

    private static void fresh(WheelAndWire x) {
        // as it was made
    }

    /** Some of everything: one sold, one tasted, slot 1 kept, and a text that is another form. */
    private static void midst(WheelAndWire x) {
        Check.put(x, "PRP/PPP/APP");
        x.form();
        x.cut(0, true, 2);
        x.cut(0, false, 1);
        x.pass(5);
        x.keep(1);
        x.cut(2, true, 1);
        x.wrap(2, 1);
        x.cut(1, false, 1);
        x.trim(2);
        x.pass(3);
        x.sell(1, false);
        x.sell(3, true);
        x.order(18, 2, 1);
        x.order(10, 0, 0);
        x.left(12);
        x.left(1121);
        x.book(7);
        x.book(30);
        x.taste(2, true);
        x.taste(4, false);
        x.ripens(3, 4);
        x.prices(4, 2);
        Check.put(x, "RA/PP");
    }

    /** The same with a text that is no form. */
    private static void faulty(WheelAndWire x) {
        midst(x);
        x.write(1, '/');
    }

    /** As much as there can be of everything. */
    private static void full(WheelAndWire x) {
        Check.put(x, "PPPPPP/PPPPPP/PPPPPP/PPPPPP/PPPPPP/PPPRPP");
        x.form();
        for (int row = 0; row < 5; row++) {
            x.cut(row, true, 1);
        }
        for (int i = 0; i < 18; i++) {
            x.cut(i % 5 == 0 ? i / 5 : 5 + i, false, 1);
        }
        x.wrap(4, 2);
        x.wrap(23, 2);
        for (int i = 0; i < 11; i++) {
            x.pass(i < 10 ? 999 : 9);
        }
        x.sell(7, false);
        x.keep(0);
        x.sell(8, true);
        x.keep(1);
        for (int i = 0; i < 4; i++) {
            x.order(20 + 10 * i, 5, 1);
        }
        for (int i = 0; i < 6; i++) {
            x.left(1000 * i + 12);
        }
        for (int i = 0; i < 16; i++) {
            x.book(6 * i);
        }
        x.write(7, 0x2F505050505050L);
    }

    private static void refused(String name, int due, Consumer<WheelAndWire> making, ToLongFunction<WheelAndWire> call) {
        WheelAndWire x = new WheelAndWire();
        making.accept(x);
        Check.due(name, call.applyAsLong(x), due);
        Check.due(name + " again", call.applyAsLong(x), due);
        Twins.compare(name, making, call);
    }

    private static void theConstants() {
        Check.says("UNKNOWN -1");
        Check.due("UNKNOWN", UNKNOWN, -1);
        Check.says("BAD -2, LATE -3, FULL -4");
        Check.due("BAD", BAD, -2);
        Check.due("LATE", LATE, -3);
        Check.due("FULL", FULL, -4);
        Check.says("NONE is -9.");
        Check.due("NONE", NONE, -9);
        WheelAndWire x = new WheelAndWire();
        full(x);
        int[] most = {24, 22, 9999, 4, 6, 48, 16};
        for (int what = 0; what < most.length; what++) {
            Check.due("count(" + what + ") where all is full", x.count(what), most[what]);
        }
    }

    // ---- the form

    private static void writes() {
        refused("write(0, P)", BAD, RefusalsTest::fresh, x -> x.write(0, 'P'));
        refused("write(9, P)", BAD, RefusalsTest::fresh, x -> x.write(9, 'P'));
        refused("write(0, P)", BAD, RefusalsTest::midst, x -> x.write(0, 'P'));
        refused("write(9, P)", BAD, RefusalsTest::midst, x -> x.write(9, 'P'));
        refused("write(1, P)", FULL, RefusalsTest::full, x -> x.write(1, 'P'));
        refused("write(8, P)", FULL, RefusalsTest::full, x -> x.write(8, 'P'));
        Check.says("Of several what is told first.");
        refused("write(0, P) of 48", BAD, RefusalsTest::full, x -> x.write(0, 'P'));
        refused("write(9, P) of 48", BAD, RefusalsTest::full, x -> x.write(9, 'P'));
        Check.says("What is refused changes nothing.");
    }

    private static void forms() {
        refused("form() of the empty text", LATE, RefusalsTest::fresh, WheelAndWire::form);
        refused("form() of a text with a fault", LATE, RefusalsTest::faulty, WheelAndWire::form);
        refused("form() of a text that is too long", LATE, RefusalsTest::full, WheelAndWire::form);
        refused("place(2, 3)", UNKNOWN, RefusalsTest::midst, x -> x.place(2, 3));
        refused("place(3, 2)", UNKNOWN, RefusalsTest::midst, x -> x.place(3, 2));
        refused("place(0, 1)", UNKNOWN, RefusalsTest::fresh, x -> x.place(0, 1));
    }

    // ---- pieces

    private static void cuts() {
        refused("cut(5, true, 1): none such", UNKNOWN, RefusalsTest::midst, x -> x.cut(5, true, 1));
        refused("cut(-1, true, 1): none such", UNKNOWN, RefusalsTest::midst, x -> x.cut(-1, true, 1));
        refused("cut(1, false, 1): sold", UNKNOWN, RefusalsTest::midst, x -> x.cut(1, false, 1));
        refused("cut(3, false, 1): tasted", UNKNOWN, RefusalsTest::midst, x -> x.cut(3, false, 1));
        refused("cut(0, true, 0)", BAD, RefusalsTest::midst, x -> x.cut(0, true, 0));
        refused("cut(0, true, 2): it has 2", BAD, RefusalsTest::midst, x -> x.cut(0, true, 2));
        refused("cut(0, false, 1): it has 1", BAD, RefusalsTest::midst, x -> x.cut(0, false, 1));
        refused("cut(0, true, 1) of one place", BAD, RefusalsTest::fresh, x -> x.cut(0, true, 1));
        refused("cut(4, false, 1) of 24", FULL, RefusalsTest::full, x -> x.cut(4, false, 1));
        refused("cut(23, false, 1) of 24", FULL, RefusalsTest::full, x -> x.cut(23, false, 1));
        Check.says("Of several what is told first.");
        refused("cut(5, true, 0)", UNKNOWN, RefusalsTest::midst, x -> x.cut(5, true, 0));
        refused("cut(1, true, 0)", UNKNOWN, RefusalsTest::midst, x -> x.cut(1, true, 0));
        refused("cut(24, true, 0) of 24", UNKNOWN, RefusalsTest::full, x -> x.cut(24, true, 0));
        refused("cut(7, false, 1) of 24, sold", UNKNOWN, RefusalsTest::full, x -> x.cut(7, false, 1));
        refused("cut(4, true, 1) of 24", BAD, RefusalsTest::full, x -> x.cut(4, true, 1));
        refused("cut(4, false, 0) of 24", BAD, RefusalsTest::full, x -> x.cut(4, false, 0));
        refused("cut(4, false, 6) of 24", BAD, RefusalsTest::full, x -> x.cut(4, false, 6));
        Check.says("What is refused changes nothing.");
    }

    private static void tellingOfPieces() {
        refused("about(5, 0)", UNKNOWN, RefusalsTest::midst, x -> x.about(5, 0));
        refused("about(-1, 7)", UNKNOWN, RefusalsTest::midst, x -> x.about(-1, 7));
        refused("about(0, 8)", BAD, RefusalsTest::midst, x -> x.about(0, 8));
        refused("about(1, -1) of a sold one", BAD, RefusalsTest::midst, x -> x.about(1, -1));
        refused("about(24, 0)", UNKNOWN, RefusalsTest::full, x -> x.about(24, 0));
        refused("weighs(5)", UNKNOWN, RefusalsTest::midst, x -> x.weighs(5));
        refused("weighs(-1)", UNKNOWN, RefusalsTest::fresh, x -> x.weighs(-1));
        refused("weighs(24)", UNKNOWN, RefusalsTest::full, x -> x.weighs(24));
        Check.says("Of several what is told first.");
        refused("about(5, 8)", UNKNOWN, RefusalsTest::midst, x -> x.about(5, 8));
        Check.says("What is refused changes nothing.");
    }

    private static void passing() {
        refused("pass(0)", BAD, RefusalsTest::midst, x -> x.pass(0));
        refused("pass(-1)", BAD, RefusalsTest::midst, x -> x.pass(-1));
        refused("pass(1000)", BAD, RefusalsTest::midst, x -> x.pass(1000));
        refused("pass(1) of 9999", BAD, RefusalsTest::full, x -> x.pass(1));
        refused("pass(999) of 9999", BAD, RefusalsTest::full, x -> x.pass(999));
    }

    private static void wraps() {
        refused("wrap(5, 1): none such", UNKNOWN, RefusalsTest::midst, x -> x.wrap(5, 1));
        refused("wrap(1, 1): sold", UNKNOWN, RefusalsTest::midst, x -> x.wrap(1, 1));
        refused("wrap(3, 1): tasted", UNKNOWN, RefusalsTest::midst, x -> x.wrap(3, 1));
        refused("wrap(2, 3)", BAD, RefusalsTest::midst, x -> x.wrap(2, 3));
        refused("wrap(2, -1)", BAD, RefusalsTest::midst, x -> x.wrap(2, -1));
        Check.says("Of several what is told first.");
        refused("wrap(5, 3)", UNKNOWN, RefusalsTest::midst, x -> x.wrap(5, 3));
        refused("wrap(1, 3)", UNKNOWN, RefusalsTest::midst, x -> x.wrap(1, 3));
        Check.says("What is refused changes nothing.");
    }

    private static void trimsAndSales() {
        int[] gone = {-1, 1, 3, 5, 24};
        for (int piece : gone) {
            refused("trim(" + piece + ")", UNKNOWN, RefusalsTest::midst, x -> x.trim(piece));
            refused("sell(" + piece + ", false)", UNKNOWN, RefusalsTest::midst, x -> x.sell(piece, false));
            refused("sell(" + piece + ", true)", UNKNOWN, RefusalsTest::midst, x -> x.sell(piece, true));
        }
        refused("trim(7) of 24, sold", UNKNOWN, RefusalsTest::full, x -> x.trim(7));
        refused("sell(8, false) of 24, tasted", UNKNOWN, RefusalsTest::full, x -> x.sell(8, false));
    }

    // ---- asks

    private static void asks() {
        int[][] wrong = {{0, 0, 0}, {361, 0, 0}, {10, -1, 0}, {10, 100, 0}, {10, 0, -1}, {10, 0, 37}};
        for (int[] k : wrong) {
            String ask = k[0] + ", " + k[1] + ", " + k[2] + ")";
            refused("serves(0, " + ask, BAD, RefusalsTest::midst, x -> x.serves(0, k[0], k[1], k[2]));
            refused("stands(" + ask, BAD, RefusalsTest::midst, x -> x.stands(k[0], k[1], k[2]));
            refused("next(" + ask, BAD, RefusalsTest::midst, x -> x.next(k[0], k[1], k[2]));
            refused("serve(" + ask, BAD, RefusalsTest::midst, x -> x.serve(k[0], k[1], k[2]));
            refused("two, the first " + ask, BAD, RefusalsTest::midst, x -> x.two(k[0], k[1], 10, 0, k[2]));
            refused("two, the second " + ask, BAD, RefusalsTest::midst, x -> x.two(10, 0, k[0], k[1], k[2]));
            refused("twoFirst, the first " + ask, BAD, RefusalsTest::midst, x -> x.twoFirst(k[0], k[1], 10, 0, k[2]));
            refused("twoFirst, the second " + ask, BAD, RefusalsTest::midst, x -> x.twoFirst(10, 0, k[0], k[1], k[2]));
            refused("order(" + ask, BAD, RefusalsTest::midst, x -> x.order(k[0], k[1], k[2]));
            Check.says("Of several what is told first.");
            refused("serves(5, " + ask, UNKNOWN, RefusalsTest::midst, x -> x.serves(5, k[0], k[1], k[2]));
            Check.says("What is refused changes nothing.");
        }
        refused("serves(5, 10, 0, 0)", UNKNOWN, RefusalsTest::midst, x -> x.serves(5, 10, 0, 0));
        refused("serve(360, 99, 36) of nothing that heavy", NONE, RefusalsTest::midst, x -> x.serve(360, 99, 36));
        refused("serve(20, 0, 0) of 24", NONE, RefusalsTest::full, x -> x.serve(20, 0, 0));
        refused("serve(1, 0, 0) of nothing that light", NONE, RefusalsTest::fresh, x -> x.serve(1, 0, 0));
    }

    // ---- whole ones

    private static void orders() {
        refused("order(10, 0, 0): a fifth", FULL, RefusalsTest::full, x -> x.order(10, 0, 0));
        Check.says("Of several what is told first.");
        refused("order(0, 0, 0): a fifth", BAD, RefusalsTest::full, x -> x.order(0, 0, 0));
        refused("order(1, 100, 0): a fifth", BAD, RefusalsTest::full, x -> x.order(1, 100, 0));
        refused("order(1, 0, 37): a fifth", BAD, RefusalsTest::full, x -> x.order(1, 0, 37));
        Check.says("What is refused changes nothing.");
    }

    private static void fairs() {
        refused("fair(0)", BAD, RefusalsTest::midst, x -> x.fair(0));
        refused("fair(-1)", BAD, RefusalsTest::midst, x -> x.fair(-1));
        refused("fair(37)", BAD, RefusalsTest::midst, x -> x.fair(37));
    }

    private static void lefts() {
        refused("left(0)", UNKNOWN, RefusalsTest::midst, x -> x.left(0));
        refused("left(41): too tall", UNKNOWN, RefusalsTest::midst, x -> x.left(41));
        refused("left(3011): below it", UNKNOWN, RefusalsTest::midst, x -> x.left(3011));
        refused("left(12): the same", LATE, RefusalsTest::midst, x -> x.left(12));
        refused("left(33): all", LATE, RefusalsTest::midst, x -> x.left(33));
        refused("left(2112): one place", LATE, RefusalsTest::midst, x -> x.left(2112));
        refused("left(311): a seventh", FULL, RefusalsTest::full, x -> x.left(311));
        Check.says("Of several what is told first.");
        refused("left(43): too tall, and in another", UNKNOWN, RefusalsTest::midst, x -> x.left(43));
        refused("left(17): too wide, and in another, a seventh", UNKNOWN, RefusalsTest::full, x -> x.left(17));
        refused("left(6011): below it, a seventh", UNKNOWN, RefusalsTest::full, x -> x.left(6011));
        refused("left(13): in another, a seventh", LATE, RefusalsTest::full, x -> x.left(13));
        Check.says("What is refused changes nothing.");
    }

    // ---- ripe, books, worth

    private static void ripe() {
        refused("ripens(-1, 1)", BAD, RefusalsTest::midst, x -> x.ripens(-1, 1));
        refused("ripens(31, 1)", BAD, RefusalsTest::midst, x -> x.ripens(31, 1));
        refused("ripens(0, 0)", BAD, RefusalsTest::midst, x -> x.ripens(0, 0));
        refused("ripens(0, 31)", BAD, RefusalsTest::midst, x -> x.ripens(0, 31));
        refused("ripest(-1)", BAD, RefusalsTest::midst, x -> x.ripest(-1));
        refused("ripest(1000)", BAD, RefusalsTest::midst, x -> x.ripest(1000));
        Check.says("refusals of them are told likewise");
        for (int side = 0; side < 2; side++) {
            boolean upper = side == 0;
            refused("ripe(5, 5, " + upper + ")", UNKNOWN, RefusalsTest::midst, x -> x.ripe(5, 5, upper));
            refused("ripe(0, -1, " + upper + ")", BAD, RefusalsTest::midst, x -> x.ripe(0, -1, upper));
            refused("ripe(0, 1000, " + upper + ")", BAD, RefusalsTest::midst, x -> x.ripe(0, 1000, upper));
            refused("ripe(5, 1000, " + upper + ")", UNKNOWN, RefusalsTest::midst, x -> x.ripe(5, 1000, upper));
            refused("brings(-1, " + upper + ")", BAD, RefusalsTest::midst, x -> x.brings(-1, upper));
            refused("brings(10, " + upper + ")", BAD, RefusalsTest::midst, x -> x.brings(10, upper));
        }
        Check.says("What is refused changes nothing.");
    }

    private static void books() {
        refused("book(-1)", BAD, RefusalsTest::midst, x -> x.book(-1));
        refused("book(100)", BAD, RefusalsTest::midst, x -> x.book(100));
        refused("book(0): a 17th", FULL, RefusalsTest::full, x -> x.book(0));
        refused("book(99): a 17th", FULL, RefusalsTest::full, x -> x.book(99));
        Check.says("Of several what is told first.");
        refused("book(-1): a 17th", BAD, RefusalsTest::full, x -> x.book(-1));
        refused("book(100): a 17th", BAD, RefusalsTest::full, x -> x.book(100));
        Check.says("What is refused changes nothing.");
        refused("over(-1)", BAD, RefusalsTest::midst, x -> x.over(-1));
        refused("over(100)", BAD, RefusalsTest::midst, x -> x.over(100));
        refused("taste(-1, true)", BAD, RefusalsTest::midst, x -> x.taste(-1, true));
        refused("taste(10, false)", BAD, RefusalsTest::midst, x -> x.taste(10, false));
    }

    private static void prices() {
        refused("prices(0, 1)", BAD, RefusalsTest::midst, x -> x.prices(0, 1));
        refused("prices(10, 1)", BAD, RefusalsTest::midst, x -> x.prices(10, 1));
        refused("prices(1, -1)", BAD, RefusalsTest::midst, x -> x.prices(1, -1));
        refused("prices(1, 10)", BAD, RefusalsTest::midst, x -> x.prices(1, 10));
    }

    // ---- slots

    private static void slots() {
        refused("keep(-1)", UNKNOWN, RefusalsTest::midst, x -> x.keep(-1));
        refused("keep(2)", UNKNOWN, RefusalsTest::midst, x -> x.keep(2));
        refused("keep(2) of two that were kept", UNKNOWN, RefusalsTest::full, x -> x.keep(2));
        refused("again(-1)", UNKNOWN, RefusalsTest::midst, x -> x.again(-1));
        refused("again(2)", UNKNOWN, RefusalsTest::midst, x -> x.again(2));
        refused("again(2) of two that were kept", UNKNOWN, RefusalsTest::full, x -> x.again(2));
        refused("again(0)", LATE, RefusalsTest::midst, x -> x.again(0));
        refused("again(0)", LATE, RefusalsTest::fresh, x -> x.again(0));
        refused("again(1)", LATE, RefusalsTest::fresh, x -> x.again(1));
        refused("count(-1)", BAD, RefusalsTest::midst, x -> x.count(-1));
        refused("count(7)", BAD, RefusalsTest::midst, x -> x.count(7));
    }

    // ---- all of them

    private static void farNumbers() {
        for (int far : FAR) {
            refused("write(" + far + ")", BAD, RefusalsTest::midst, x -> x.write(far, 'P'));
            refused("place(" + far + ")", UNKNOWN, RefusalsTest::midst, x -> x.place(far, far));
            refused("cut(" + far + ")", UNKNOWN, RefusalsTest::midst, x -> x.cut(far, true, far));
            refused("cut(0, .., " + far + ")", BAD, RefusalsTest::midst, x -> x.cut(0, false, far));
            refused("about(0, " + far + ")", BAD, RefusalsTest::midst, x -> x.about(0, far));
            refused("weighs(" + far + ")", UNKNOWN, RefusalsTest::midst, x -> x.weighs(far));
            refused("pass(" + far + ")", BAD, RefusalsTest::midst, x -> x.pass(far));
            refused("wrap(" + far + ")", UNKNOWN, RefusalsTest::midst, x -> x.wrap(far, far));
            refused("wrap(2, " + far + ")", BAD, RefusalsTest::midst, x -> x.wrap(2, far));
            refused("trim(" + far + ")", UNKNOWN, RefusalsTest::midst, x -> x.trim(far));
            refused("sell(" + far + ")", UNKNOWN, RefusalsTest::midst, x -> x.sell(far, true));
            refused("serve(" + far + ")", BAD, RefusalsTest::midst, x -> x.serve(far, far, far));
            refused("order(" + far + ")", BAD, RefusalsTest::midst, x -> x.order(far, 0, 0));
            refused("fair(" + far + ")", BAD, RefusalsTest::midst, x -> x.fair(far));
            refused("left(" + far + ")", UNKNOWN, RefusalsTest::midst, x -> x.left(far));
            refused("ripens(" + far + ", 6)", BAD, RefusalsTest::midst, x -> x.ripens(far, 6));
            refused("ripens(5, " + far + ")", BAD, RefusalsTest::midst, x -> x.ripens(5, far));
            refused("ripest(" + far + ")", BAD, RefusalsTest::midst, x -> x.ripest(far));
            refused("book(" + far + ")", BAD, RefusalsTest::midst, x -> x.book(far));
            refused("taste(" + far + ")", BAD, RefusalsTest::midst, x -> x.taste(far, true));
            refused("prices(" + far + ", 1)", BAD, RefusalsTest::midst, x -> x.prices(far, 1));
            refused("prices(1, " + far + ")", BAD, RefusalsTest::midst, x -> x.prices(1, far));
            refused("keep(" + far + ")", UNKNOWN, RefusalsTest::midst, x -> x.keep(far));
            refused("again(" + far + ")", UNKNOWN, RefusalsTest::midst, x -> x.again(far));
        }
    }

    private static void asksOnly(String name, ToLongFunction<WheelAndWire> call) {
        Twins.compare(name + " at first", RefusalsTest::fresh, call);
        Twins.compare(name + " in the midst", RefusalsTest::midst, call);
        Twins.compare(name + " where all is full", RefusalsTest::full, call);
    }

    private static void whatOnlyAsks() {
        Check.says("Nothing is promised beyond the answers and state changes described above");
        asksOnly("fault()", WheelAndWire::fault);
        asksOnly("place(0, 0)", x -> x.place(0, 0));
        asksOnly("about(0, 0)", x -> x.about(0, 0));
        asksOnly("weighs(0)", x -> x.weighs(0));
        asksOnly("serves(0, 10, 9, 1)", x -> x.serves(0, 10, 9, 1));
        asksOnly("stands(10, 9, 1)", x -> x.stands(10, 9, 1));
        asksOnly("next(8, 4, 1)", x -> x.next(8, 4, 1));
        asksOnly("two(8, 4, 8, 4, 1)", x -> x.two(8, 4, 8, 4, 1));
        asksOnly("twoFirst(8, 4, 8, 4, 1)", x -> x.twoFirst(8, 4, 8, 4, 1));
        asksOnly("whole()", WheelAndWire::whole);
        asksOnly("first()", WheelAndWire::first);
        asksOnly("fair(2)", x -> x.fair(2));
        asksOnly("read()", WheelAndWire::read);
        asksOnly("ripe(0, 5, true)", x -> x.ripe(0, 5, true));
        asksOnly("ripest(5)", x -> x.ripest(5));
        asksOnly("over(5)", x -> x.over(5));
        asksOnly("bestOver()", WheelAndWire::bestOver);
        asksOnly("brings(2, true)", x -> x.brings(2, true));
        asksOnly("bestTaste()", WheelAndWire::bestTaste);
        asksOnly("worth()", WheelAndWire::worth);
        asksOnly("count(0)", x -> x.count(0));
    }
}
