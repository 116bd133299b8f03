import java.util.ArrayList;
import java.util.List;
import java.util.function.Consumer;
import java.util.function.ToLongFunction;

/**
 * Two objects that were made alike, of which one has had one call more: whether anything that can be asked, or done
 * and asked afterwards, tells them apart. Each kind of asking has twins of its own, as an object has 512 calls.
 */
final class Twins {
    /** Asks an object many things, and writes down what it answers. */
    private interface Asking {
        void ask(WheelAndWire x, List<Long> answers);
    }

    private static final Asking[] ASKINGS = {Twins::whatIsTold, Twins::eachPiece, Twins::whoIsServed, Twins::whatIsRipe,
        Twins::whatWas, Twins::whatWasKept, Twins::theTextAsForm, Twins::goingOn, Twins::orderedAndLeft};
    private static final int PIECES = 25; // one more than there can be

    private Twins() {
    }

    /** The call's answer is looked at by the one who calls; here it is only whether it left all as it was. */
    static void compare(String name, Consumer<WheelAndWire> making, ToLongFunction<WheelAndWire> call) {
        for (int i = 0; i < ASKINGS.length; i++) {
            WheelAndWire one = new WheelAndWire();
            making.accept(one);
            call.applyAsLong(one);
            WheelAndWire other = new WheelAndWire();
            making.accept(other);
            List<Long> ofOne = new ArrayList<>();
            List<Long> ofOther = new ArrayList<>();
            ASKINGS[i].ask(one, ofOne);
            ASKINGS[i].ask(other, ofOther);
            int differs = 0;
            while (differs < ofOne.size() && ofOne.get(differs).equals(ofOther.get(differs))) {
                differs++;
            }
            Check.holds(name + " changes nothing (asking " + i + ", answer " + differs + ")", ofOne.equals(ofOther));
        }
    }

    private static void whatIsTold(WheelAndWire x, List<Long> answers) {
        for (int what = 0; what < 7; what++) {
            answers.add((long) x.count(what));
        }
        for (int row = 0; row < 7; row++) {
            for (int column = 0; column < 7; column++) {
                answers.add((long) x.place(row, column));
            }
        }
        for (int n = 1; n <= 36; n++) {
            answers.add((long) x.fair(n));
        }
        for (int over = 0; over <= 99; over++) {
            answers.add((long) x.over(over));
        }
        for (int t = 0; t < 10; t++) {
            answers.add(x.brings(t, true));
            answers.add(x.brings(t, false));
        }
        int[] others = {x.fault(), x.whole(), x.first(), x.read(), x.bestOver(), x.bestTaste(), x.worth()};
        for (int other : others) {
            answers.add((long) other);
        }
    }

    private static void eachPiece(WheelAndWire x, List<Long> answers) {
        for (int piece = 0; piece < PIECES; piece++) {
            for (int what = 0; what < 8; what++) {
                answers.add((long) x.about(piece, what));
            }
            answers.add((long) x.weighs(piece));
        }
    }

    private static void whoIsServed(WheelAndWire x, List<Long> answers) {
        for (int a = 8; a <= 68; a += 6) {
            for (int r = 0; r < 3; r++) {
                answers.add((long) x.serves(r, a, 5, r));
                answers.add((long) x.stands(a, 5, r));
                answers.add((long) x.next(a, 5, r));
                answers.add((long) x.two(a, 5, 10, 9, r));
                answers.add((long) x.twoFirst(a, 5, 10, 9, r));
            }
        }
    }

    private static void whatIsRipe(WheelAndWire x, List<Long> answers) {
        for (int day = 0; day < 20; day++) {
            answers.add((long) x.ripest(day));
        }
        for (int piece = 0; piece < PIECES; piece++) {
            for (int day = 3; day < 12; day += 4) {
                answers.add(x.ripe(piece, day, true));
                answers.add(x.ripe(piece, day, false));
            }
        }
    }

    private static void whatWas(WheelAndWire x, List<Long> answers) {
        answers.add((long) x.ripens(5, 6));
        answers.add((long) x.prices(3, 1));
        for (int t = 0; t < 10; t++) {
            answers.add((long) x.taste(t, t % 2 == 0));
        }
        answers.add((long) x.bestTaste());
        answers.add((long) x.book(50));
        answers.add((long) x.bestOver());
        answers.add((long) x.unorder());
        answers.add((long) x.unleft());
        answers.add((long) x.pass(1));
        answers.add((long) x.write(1, 'P'));
        answers.add((long) x.fault());
        answers.add((long) x.wipe());
    }

    private static void whatWasKept(WheelAndWire x, List<Long> answers) {
        for (int slot = 0; slot < 2; slot++) {
            answers.add((long) x.again(slot));
            answers.add((long) x.count(0));
            answers.add((long) x.count(2));
            for (int piece = 0; piece < PIECES; piece++) {
                int[] whats = {0, 1, 4, 5, 6};
                for (int what : whats) {
                    answers.add((long) x.about(piece, what));
                }
            }
        }
    }

    private static void theTextAsForm(WheelAndWire x, List<Long> answers) {
        answers.add((long) x.form());
        answers.add((long) x.whole());
        answers.add((long) x.first());
        answers.add((long) x.read());
        answers.add((long) x.again(0));
        answers.add((long) x.again(1));
        for (int row = 0; row < 6; row++) {
            for (int column = 0; column < 6; column++) {
                answers.add((long) x.place(row, column));
            }
        }
    }

    /** What each side dried is seen in the parts when a piece is cut. */
    private static void goingOn(WheelAndWire x, List<Long> answers) {
        answers.add((long) x.serve(10, 3, 1));
        answers.add((long) x.pass(7));
        for (int piece = 0; piece < 6; piece++) {
            answers.add((long) x.cut(piece, true, 1));
            answers.add((long) x.cut(piece, false, 1));
            answers.add((long) x.trim(piece));
            answers.add((long) x.sell(piece, piece % 2 == 0));
        }
        for (int piece = 0; piece < PIECES; piece++) {
            answers.add((long) x.about(piece, 4));
            answers.add((long) x.about(piece, 5));
        }
        answers.add((long) x.worth());
    }

    private static void orderedAndLeft(WheelAndWire x, List<Long> answers) {
        for (int round = 0; round < 2; round++) {
            answers.add((long) x.order(10, 8, 1));
            answers.add((long) x.whole());
            answers.add((long) x.first());
            answers.add((long) x.left(11));
            answers.add((long) x.left(2211));
            answers.add((long) x.read());
            answers.add((long) x.unorder());
            answers.add((long) x.whole());
            answers.add((long) x.unleft());
            answers.add((long) x.read());
        }
    }
}
