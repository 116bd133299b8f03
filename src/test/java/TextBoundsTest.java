/** Where THE TEXT, FAULT, FORM and PLACES end: the document's first section and promises 1 to 6, sentence by sentence. */
public final class TextBoundsTest {
    private static final int NONE = WheelAndWire.NONE, BAD = WheelAndWire.BAD, UNKNOWN = WheelAndWire.UNKNOWN;
    private static final int LATE = WheelAndWire.LATE, FULL = WheelAndWire.FULL;
    private static final int MIN = Integer.MIN_VALUE, MAX = Integer.MAX_VALUE;

    public static void main(String[] args) {
        atFirst();
        textOf48Bytes();
        nothingComes();
        bytesOfAWrite();
        theLowestTheHighestFirst();
        badAheadOfFull();
        wiping();
        oneToSixRowsOfOneToSixSigns();
        rowsAsLongAsTheFirst();
        slashesBetween();
        threeSigns();
        theFirstFault();
        whateverComesBehind();
        lengthSetAside();
        onlyNotAtItsEnd();
        formOrLate();
        formAnew();
        smallerAndLargerForms();
        whatAPlaceWeighs();
        placesOfTheForm();
        Check.end();
    }

    private static void fault(String text, int due) {
        WheelAndWire x = new WheelAndWire();
        Check.put(x, text);
        Check.due("fault() of '" + text + "'", x.fault(), due);
    }

    /** A text of some length, whatever it says. */
    private static WheelAndWire filled(int length) {
        WheelAndWire x = new WheelAndWire();
        for (int i = 0; i < length; i++) {
            x.write(1, 'P');
        }
        return x;
    }

    private static String block(int rows, int columns) {
        String row = "PRAPRA".substring(0, columns);
        return (row + ("/" + row).repeat(rows - 1));
    }

    private static void atFirst() {
        Check.says("At first the FORM is P.");
        WheelAndWire x = new WheelAndWire();
        Check.due("place(0, 0)", x.place(0, 0), 0);
        Check.due("place(0, 1)", x.place(0, 1), UNKNOWN);
        Check.due("place(1, 0)", x.place(1, 0), UNKNOWN);
        Check.says("One PLACE of paste.");
        Check.due("about(0, 0)", x.about(0, 0), 11);
        Check.due("weighs(0)", x.weighs(0), 10);
        Check.due("count(0)", x.count(0), 1);
        Check.due("count(5): the form is there, the text is empty", x.count(5), 0);
        Check.due("form(): the empty text is none", x.form(), LATE);
    }

    private static void textOf48Bytes() {
        Check.says("THE TEXT is bytes (48 at most)");
        for (int n = 1; n <= 8; n++) {
            WheelAndWire below = filled(47 - n);
            Check.due("write(" + n + ") up to 47", below.write(n, 0), 47);
            WheelAndWire at = filled(48 - n);
            Check.due("write(" + n + ") up to 48", at.write(n, 0), 48);
            Check.due("count(5)", at.count(5), 48);
            Check.says("FULL: it would be longer than 48");
            WheelAndWire above = filled(49 - n);
            Check.due("write(" + n + ") up to 49", above.write(n, 0), FULL);
            Check.due("count(5)", above.count(5), 49 - n);
            Check.due("write(" + n + ") where it is full", at.write(n, 0), FULL);
            Check.due("count(5)", at.count(5), 48);
        }
    }

    private static void nothingComes() {
        Check.says("(nothing comes)");
        WheelAndWire x = new WheelAndWire();
        Check.put(x, block(6, 6));
        Check.due("write(8, ..) behind 41", x.write(8, 0x5050505050505050L), FULL);
        Check.due("count(5)", x.count(5), 41);
        Check.due("fault()", x.fault(), NONE);
        Check.due("form()", x.form(), 36);
        Check.due("write(7, ..) behind 41", x.write(7, 0x50505050505050L), 48);
        Check.due("fault()", x.fault(), 41);
    }

    private static void bytesOfAWrite() {
        Check.says("n bytes (1 .. 8) of v");
        WheelAndWire x = new WheelAndWire();
        int[] refused = {MIN, MIN + 1, -8, -1, 0, 9, 10, 16, 256, 257, MAX};
        for (int n : refused) {
            Check.due("write(" + n + ", P)", x.write(n, 'P'), BAD);
            Check.due("count(5)", x.count(5), 0);
        }
        Check.due("write(1, P)", x.write(1, 'P'), 1);
        Check.due("write(8, ..)", x.write(8, 0x2F502F522F412F50L), 9);
        Check.says("come behind THE TEXT: how long it is");
        Check.due("form()", x.form(), 5);
        Check.due("place(0, 0): what was there is ahead", x.place(0, 0), 0);
        Check.due("place(2, 0)", x.place(2, 0), 1);
        Check.due("place(3, 0)", x.place(3, 0), 2);
        for (int n = 2; n <= 8; n++) {
            Check.due("write(" + n + ", ..)", new WheelAndWire().write(n, 0), n);
        }
    }

    private static void theLowestTheHighestFirst() {
        Check.says("the lowest n, the highest of these first");
        long[] values = {0x5241502F2F2F5241L, 0xFFFFFFFFFFFF5241L, 0x5241L, 0x8000000000005241L};
        for (long v : values) {
            WheelAndWire x = new WheelAndWire();
            Check.due("write(2, ..RA)", x.write(2, v), 2);
            Check.due("form()", x.form(), 2);
            Check.due("place(0, 0)", x.place(0, 0), 1);
            Check.due("place(0, 1)", x.place(0, 1), 2);
        }
        WheelAndWire all = new WheelAndWire();
        all.write(8, 0x52502F41502F5041L);
        Check.due("form() of RP/AP/PA", all.form(), 6);
        Check.due("place(0, 0): the highest of eight", all.place(0, 0), 1);
        Check.due("place(2, 1): the lowest of eight", all.place(2, 1), 2);
        WheelAndWire high = new WheelAndWire();
        high.write(8, 0xD050505050505050L);
        Check.due("fault(): a byte of 208 is no P", high.fault(), 0);
        WheelAndWire low = new WheelAndWire();
        low.write(2, 0x50D0L);
        Check.due("fault(): a byte of 208 is no P", low.fault(), 1);
    }

    private static void badAheadOfFull() {
        Check.says("BAD; FULL: it would be longer than 48 (nothing comes).");
        WheelAndWire x = filled(48);
        int[] refused = {MIN, -1, 0, 9, MAX};
        for (int n : refused) {
            Check.due("write(" + n + ", ..) where it is full", x.write(n, 0), BAD);
        }
        Check.due("count(5)", x.count(5), 48);
    }

    private static void wiping() {
        Check.says("THE TEXT is empty: how long it was.");
        int[] lengths = {0, 1, 47, 48};
        for (int length : lengths) {
            WheelAndWire x = filled(length);
            Check.due("wipe()", x.wipe(), length);
            Check.due("count(5)", x.count(5), 0);
            Check.due("fault()", x.fault(), 0);
            Check.due("wipe() of the empty one", x.wipe(), 0);
            Check.due("write(8, ..): there is room again", x.write(8, 0), 8);
        }
    }

    private static void oneToSixRowsOfOneToSixSigns() {
        Check.says("1 .. 6 ROWS with a / between them, each of as many signs as the first one (1 .. 6)");
        for (int rows = 1; rows <= 6; rows++) {
            for (int columns = 1; columns <= 6; columns++) {
                String text = block(rows, columns);
                fault(text, NONE);
                boolean wider = rows == 1 && columns < 6;
                fault(text + "P", wider ? NONE : text.length());
                fault(text + "/", rows < 6 ? text.length() + 1 : text.length());
                String shorter = text.substring(0, text.length() - 1);
                fault(shorter, rows == 1 && columns > 1 ? NONE : shorter.length());
                WheelAndWire x = new WheelAndWire();
                Check.put(x, text);
                Check.due("form() of " + text, x.form(), rows * columns);
                Check.due("about(0, 0)", x.about(0, 0), 10 * rows + columns);
            }
        }
        fault("PPPPPPP", 6);
        fault("PPPPPP/PPPPPPP", 13);
        fault("P/P/P/P/P/P", NONE);
        fault("P/P/P/P/P/P/P", 11);
        fault("", 0);
        fault("/P", 0);
    }

    private static void rowsAsLongAsTheFirst() {
        Check.says("each of as many signs as the first one");
        fault("PPP/PP/PPP", 6);
        fault("PPP/PPPP/PPP", 7);
        fault("PPP/PPP/PP", 10);
        fault("PPP/PPP/PPP", NONE);
        fault("PPP/PPP/PPPP", 11);
        fault("PPPPPP/PPPPP/", 12);
        fault("P/PP", 3);
        fault("PP/P/PP", 4);
        fault("PPP/PPP/PP/PPP", 10);
    }

    private static void slashesBetween() {
        Check.says("with a / between them");
        fault("/", 0);
        fault("P/", 2);
        fault("P//P", 2);
        fault("PP//PP", 3);
        fault("P/P", NONE);
        fault("P.P", 1);
        fault("P0P", 1);
        fault("P\\P", 1);
        fault("P\nP", 1);
    }

    private static void threeSigns() {
        Check.says("P paste, R rind, A air");
        for (int sign = 0; sign < 256; sign++) {
            int kind = "PRA".indexOf(sign);
            WheelAndWire alone = new WheelAndWire();
            alone.write(1, sign);
            Check.due("fault() of the byte " + sign, alone.fault(), kind >= 0 ? NONE : 0);
            Check.due("form() of the byte " + sign, alone.form(), kind >= 0 ? 1 : LATE);
            Check.due("place(0, 0)", alone.place(0, 0), Math.max(0, kind));
            WheelAndWire second = new WheelAndWire();
            second.write(1, 'A');
            second.write(1, sign);
            Check.due("fault() of A and the byte " + sign, second.fault(), kind >= 0 ? NONE : sign == '/' ? 2 : 1);
        }
    }

    private static void theFirstFault() {
        Check.says("FAULT; NONE.");
        fault("P", NONE);
        fault("X", 0);
        Check.says("the place (from 0) of the first byte by which THE TEXT can be no FORM");
        fault("X", 0);
        fault("XX", 0);
        fault("PXXP", 1);
        fault("PX//", 1);
        fault("P//X", 2);
        fault("PP/PPPX", 5);
        fault("PP/PXPP", 4);
        fault("PPPPPPX", 6);
        fault("PPPPPP/PPPPPP/PPPPPP/PPPPPP/PPPPPP/PPPPPX", 40);
    }

    private static void whateverComesBehind() {
        Check.says("whatever came behind it");
        String[] texts = {"X", "/", "PPPPPPP", "P//", "PP/P/", "P/PP", "P/P/P/P/P/P/", block(6, 6) + "P", block(6, 6) + "/"};
        for (String text : texts) {
            int due = text.length() - 1;
            fault(text, due);
            String[] behind = {"P", "R", "A", "/", "X", "/P", "PP", "P/"};
            for (String more : behind) {
                fault(text + more, due);
            }
        }
        fault("PP/P", 4);
        fault("PP/PP", NONE);
    }

    private static void lengthSetAside() {
        Check.says("(its length set aside)");
        fault("P".repeat(48), 6);
        fault("PPPPPP/".repeat(6) + "PPPPPP", 41);
        fault("P/".repeat(24), 11);
        fault(block(6, 6) + "PPPPPPP", 41);
        fault(block(5, 6) + "/", 35);
    }

    private static void onlyNotAtItsEnd() {
        Check.says("its length, if it is only not at its end");
        fault("", 0);
        fault("P/", 2);
        fault("PRAPRA/", 7);
        fault("PP/P", 4);
        fault("PP/PP/", 6);
        fault("P/P/P/P/P/", 10);
        fault("PPPPPP/P", 8);
        fault(block(6, 6).substring(0, 40), 40);
        fault(block(6, 6).substring(0, 35), 35);
    }

    private static void formOrLate() {
        Check.says("LATE: a FAULT.");
        String[] none = {"", "/", "P/", "PP/P", "PPPPPPP", "P/P/P/P/P/P/", "X", "PP/PX", block(6, 6) + "P"};
        for (String text : none) {
            WheelAndWire x = Check.made("R");
            Check.put(x, text);
            Check.due("form() of '" + text + "'", x.form(), LATE);
            Check.due("place(0, 0)", x.place(0, 0), 1);
            Check.due("count(5): the text stays", x.count(5), text.length());
        }
        Check.says("how many PLACES. LATE: a FAULT.");
        Check.due("form() of the least", Check.made("A").count(5), 1);
        Check.due("form() of the most", Check.made(block(6, 6)).count(5), 41);
        Check.says("THE TEXT is the FORM");
        WheelAndWire x = Check.made("PR/AP");
        Check.due("count(5): the text stays", x.count(5), 5);
        Check.due("fault()", x.fault(), NONE);
        Check.due("form() of the same text", x.form(), 4);
        x.write(1, '/');
        Check.due("place(1, 0): the form stays what it was", x.place(1, 0), 2);
        Check.due("form()", x.form(), LATE);
    }

    private static void formAnew() {
        WheelAndWire x = Check.made("PP/PP");
        x.cut(0, true, 1);
        x.pass(9);
        x.keep(0);
        x.keep(1);
        x.order(20, 0, 0);
        x.left(11);
        x.book(7);
        x.taste(3, true);
        x.ripens(1, 2);
        x.prices(4, 5);
        Check.due("form()", x.form(), 4);
        Check.says("HALF HOURS 0");
        Check.due("count(2)", x.count(2), 0);
        Check.due("pass(1)", x.pass(1), 1);
        Check.says("what was kept is gone");
        Check.due("again(0)", x.again(0), LATE);
        Check.due("again(1)", x.again(1), LATE);
        Check.says("ORDER, BOOKS stay");
        Check.due("count(3)", x.count(3), 1);
        Check.due("whole()", x.whole(), 2);
        Check.due("count(6)", x.count(6), 1);
        Check.due("over(7)", x.over(7), 1007);
        Check.due("taste(3, false)", x.taste(3, false), 2);
        Check.says("BLOCKS that are LEFT are gone");
        Check.due("count(4)", x.count(4), 0);
        Check.due("read()", x.read(), 0);
        Check.due("left(11): nothing is in its places", x.left(11), 1);
        Check.says("when the FORM is made anew, PIECE 0 is all of it");
        Check.due("count(0)", x.count(0), 1);
        Check.due("about(0, 0)", x.about(0, 0), 22);
        Check.due("ripens(5, 6): what the document does not name stays", x.ripens(5, 6), 102);
        Check.due("prices(3, 1): likewise", x.prices(3, 1), 45);
    }

    /** What a larger form was made of is not seen in a smaller one, nor afterwards in a larger one. */
    private static void smallerAndLargerForms() {
        Check.says("THE TEXT is the FORM");
        WheelAndWire x = Check.made("RRRRRR/RRRRRR/RRRRRR/RRRRRR/RRRRRR/RRRRRR");
        Check.due("weighs(0)", x.weighs(0), 288);
        Check.put(x, "PP");
        Check.due("form()", x.form(), 2);
        Check.due("weighs(0)", x.weighs(0), 20);
        Check.due("about(0, 2)", x.about(0, 2), 0);
        Check.due("place(0, 2)", x.place(0, 2), UNKNOWN);
        Check.due("place(1, 0)", x.place(1, 0), UNKNOWN);
        Check.put(x, "APP/PPA/RPP");
        Check.due("form()", x.form(), 9);
        Check.due("weighs(0)", x.weighs(0), 68);
        Check.due("about(0, 2)", x.about(0, 2), 1);
        x.cut(0, true, 1);
        Check.due("weighs(0)", x.weighs(0), 20);
        Check.due("weighs(1)", x.weighs(1), 48);
        Check.put(x, "AAA/AAA/AAA");
        Check.due("form()", x.form(), 9);
        Check.due("weighs(0)", x.weighs(0), 0);
        Check.due("about(0, 2)", x.about(0, 2), 0);
    }

    private static void whatAPlaceWeighs() {
        Check.says("A PLACE weighs 10 (paste), 8 (rind), 0 (air).");
        Check.due("weighs(0) of P", Check.made("P").weighs(0), 10);
        Check.due("weighs(0) of R", Check.made("R").weighs(0), 8);
        Check.due("weighs(0) of A", Check.made("A").weighs(0), 0);
        Check.due("weighs(0) of PRA", Check.made("PRA").weighs(0), 18);
        String six = "PPPPPP/PPPPPP/PPPPPP/PPPPPP/PPPPPP/PPPPPP";
        Check.due("weighs(0) of 36 of paste", Check.made(six).weighs(0), 360);
        Check.due("weighs(0) of 36 of rind", Check.made(six.replace('P', 'R')).weighs(0), 288);
        Check.due("weighs(0) of 36 of air", Check.made(six.replace('P', 'A')).weighs(0), 0);
    }

    private static void placesOfTheForm() {
        Check.says("A PLACE: 0 paste, 1 rind, 2 air. UNKNOWN.");
        int[][] sizes = {{1, 1}, {1, 6}, {6, 1}, {2, 3}, {5, 5}, {6, 6}};
        for (int[] size : sizes) {
            WheelAndWire x = Check.made(block(size[0], size[1]));
            for (int row = -1; row <= 7; row++) {
                for (int column = -1; column <= 7; column++) {
                    boolean there = row >= 0 && row < size[0] && column >= 0 && column < size[1];
                    Check.due("place(" + row + ", " + column + ")", x.place(row, column), there ? column % 3 : UNKNOWN);
                }
            }
            int[][] far = {{MIN, 0}, {0, MIN}, {MAX, 0}, {0, MAX}, {MIN, MIN}, {MAX, MAX}, {MIN, MAX}};
            for (int[] k : far) {
                Check.due("place(" + k[0] + ", " + k[1] + ")", x.place(k[0], k[1]), UNKNOWN);
            }
        }
    }
}
