/** Uses an object up with calls of every kind; what is left of them is what form() does not do away with: nothing. */
final class Worn {
    private static final String LARGE = "RPAPRP/APPRPP/PPARPA/RPPPPR/PARPPP/PPPPRA";

    private Worn() {
    }

    /** Some 170 calls. THE BOOKS stay as they are, since nothing empties them. */
    static void wear(WheelAndWire x) {
        Script calls = new Script(x);
        calls.form(LARGE);
        cutAndDry(x);
        serve(x);
        x.keep(0);
        orderAndLeave(x);
        x.again(0);
        for (int i = 0; i < 9; i++) {
            x.pass(999);
        }
        x.pass(930);
        x.keep(1);
        Check.due("a worn one has had all half hours", x.count(2), 9999);
        Check.due("a worn one has all pieces", x.count(0), 24);
        takeBack(x);
        calls.text(LARGE + "/PPPPPP");
    }

    private static void cutAndDry(WheelAndWire x) {
        for (int piece = 0; piece < 12; piece++) {
            x.cut(piece, piece % 2 == 0, 1);
            x.wrap(piece, piece % 3);
            x.pass(1 + piece);
            x.cut(piece, piece % 2 == 1, 1);
        }
        for (int piece = 0; piece < 24; piece += 3) {
            x.trim(piece);
            x.cut(piece, true, 1);
            x.cut(piece, false, 1);
        }
        for (int piece = 23; piece > 0; piece -= 2) {
            x.cut(piece, true, 1);
            x.cut(piece, false, 1);
        }
    }

    private static void serve(WheelAndWire x) {
        x.two(10, 30, 20, 30, 9);
        x.twoFirst(10, 30, 20, 30, 9);
        x.serve(10, 50, 9);
        x.next(9, 3, 2);
        x.sell(3, true);
        x.sell(4, false);
    }

    private static void orderAndLeave(WheelAndWire x) {
        for (int i = 0; i < 4; i++) {
            x.order(20 + 6 * i, 9, 4);
        }
        x.whole();
        x.first();
        x.fair(2);
        x.fair(1);
        for (int row = 0; row < 6; row++) {
            x.left(1000 * row + 113);
        }
        x.read();
        x.ripens(1, 2);
        x.ripest(3);
        x.prices(9, 9);
        x.worth();
    }

    private static void takeBack(WheelAndWire x) {
        Check.due("unorder() of a worn one", x.unorder(), 4);
        Check.due("unleft() of a worn one", x.unleft(), 6);
        Check.due("ripens(5, 6) of a worn one", x.ripens(5, 6), 102);
        Check.due("prices(3, 1) of a worn one", x.prices(3, 1), 99);
    }
}
