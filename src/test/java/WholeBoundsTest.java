import java.util.HashSet;
import java.util.Set;

/** Where THE ORDER, THE WHOLE, FAIR, LEFT and READ end: promises 20 to 27, sentence by sentence. */
public final class WholeBoundsTest {
    private static final int NONE = WheelAndWire.NONE, BAD = WheelAndWire.BAD, UNKNOWN = WheelAndWire.UNKNOWN;
    private static final int LATE = WheelAndWire.LATE, FULL = WheelAndWire.FULL;
    private static final int MIN = Integer.MIN_VALUE, MAX = Integer.MAX_VALUE;
    private static final String LARGE = "PPPPPP/PPPPPP/PPPPPP/PPPPPP/PPPPPP/PPPPPP";

    public static void main(String[] args) {
        fourAsksAtMost();
        emptyOrder();
        wholeByWeight();
        theShortestWire();
        wholeByRind();
        placesAlone();
        blocksOfTheirOwn();
        asTheFormWasAtFirst();
        theFirstCut();
        noFirstCut();
        fairBy1To36();
        moreThan0();
        likeRind();
        noFairCut();
        sixLeftAtMost();
        leftInNoOther();
        leftOfTheForm();
        whichIsToldFirst();
        byHowFewCuts();
        readByNone();
        readOfNone();
        Check.end();
    }

    private static void whole(String text, int a, int o, int r, int due) {
        WheelAndWire x = Check.made(text);
        x.order(a, o, r);
        Check.due("whole() of " + text + " for " + a + ", " + o + ", " + r, x.whole(), due);
    }

    private static void fourAsksAtMost() {
        Check.says("THE ORDER are ASKS, 4 at most");
        WheelAndWire x = Check.made("PPPPP");
        for (int i = 1; i <= 4; i++) {
            Check.due("order(10, 0, 0)", x.order(10, 0, 0), i);
            Check.due("count(3)", x.count(3), i);
        }
        Check.due("whole()", x.whole(), 4);
        Check.says("An ASK more of THE ORDER: how many there are. BAD; FULL: 4.");
        Check.due("order(10, 0, 0): a fifth", x.order(10, 0, 0), FULL);
        Check.due("order(360, 99, 36): a fifth", x.order(360, 99, 36), FULL);
        Check.due("count(3)", x.count(3), 4);
        Check.due("whole(): as it was", x.whole(), 4);
        int[][] wrong = {{0, 0, 0}, {361, 0, 0}, {1, -1, 0}, {1, 100, 0}, {1, 0, -1}, {1, 0, 37}, {MIN, MAX, MIN}};
        for (int[] k : wrong) {
            Check.due("order(" + k[0] + ", " + k[1] + ", " + k[2] + "): BAD ahead of FULL", x.order(k[0], k[1], k[2]), BAD);
        }
        Check.says("THE ORDER is empty: how long it was.");
        Check.due("unorder()", x.unorder(), 4);
        Check.due("unorder()", x.unorder(), 0);
        Check.due("count(3)", x.count(3), 0);
        Check.due("order(50, 0, 0): there is room again", x.order(50, 0, 0), 1);
        Check.due("whole(): the new one alone counts", x.whole(), 0);
        for (int asks = 1; asks <= 4; asks++) {
            ordered(x, asks, 360, NONE);
            ordered(x, asks, 10, asks);
            ordered(x, 4, 360, NONE);
            ordered(x, asks, 10, asks);
        }
    }

    private static void ordered(WheelAndWire x, int asks, int each, int due) {
        x.unorder();
        for (int i = 0; i < asks; i++) {
            x.order(each, 0, 36);
        }
        Check.due("whole(): " + asks + " of " + each + ", whatever was ordered ahead", x.whole(), due);
    }

    private static void emptyOrder() {
        Check.says("THE WHOLE; NONE.");
        WheelAndWire x = new WheelAndWire();
        Check.due("whole() for no ask", x.whole(), 0);
        Check.due("first() for no ask", x.first(), NONE);
        x.order(11, 0, 0);
        Check.due("whole()", x.whole(), NONE);
        x.unorder();
        Check.due("whole() for no ask", x.whole(), 0);
        WheelAndWire air = Check.made("AA");
        Check.due("whole() of air for no ask", air.whole(), 0);
    }

    private static void wholeByWeight() {
        Check.says("has a BLOCK of its own that weighs a .. a and o");
        int[][] due = {{20, 0, 0}, {19, 0, NONE}, {19, 1, 0}, {18, 1, NONE}, {18, 2, 0}, {21, 0, NONE}, {21, 99, NONE}, {9, 0, NONE},
            {9, 1, 1}, {10, 0, 1}, {10, 9, 1}, {10, 10, 0}, {11, 8, NONE}, {1, 9, 1}, {1, 8, NONE}, {1, 99, 0}, {360, 99, NONE}};
        for (int[] k : due) {
            whole("PP", k[0], k[1], 0, k[2]);
        }
        whole(LARGE, 360, 0, 0, 0);
        whole(LARGE, 360, 99, 36, 0);
        whole(LARGE, 261, 99, 0, 0);
        whole(LARGE, 260, 99, 0, 6);
        whole("A", 1, 99, 36, NONE);
    }

    private static void theShortestWire() {
        Check.says("THE WHOLE: the shortest wire (EDGES of all CUTS together)");
        whole("PPP/PPP", 10, 0, 0, 3);
        whole("PPP/PPP", 20, 0, 0, 2);
        whole("PPP/PPP", 30, 0, 0, 3);
        whole("PPP/PPP", 40, 0, 0, 2);
        whole("PPP/PPP", 50, 0, 0, NONE);
        whole(LARGE, 10, 0, 0, 7);
        whole("RRR/RPR/RRR", 10, 0, 0, 8);
    }

    private static void wholeByRind() {
        Check.says("(PLACES alone) and has no more than r PLACES of rind");
        whole("PRRP", 36, 0, 2, 0);
        whole("PRRP", 36, 0, 1, NONE);
        whole("PRRP", 18, 0, 1, 1);
        whole("PRRP", 18, 0, 0, NONE);
        whole("PRRP", 16, 0, 2, 2);
        whole("PRRP", 16, 0, 1, NONE);
        whole("PRRP", 10, 0, 0, 1);
        whole(LARGE.replace('P', 'R'), 288, 0, 36, 0);
        whole(LARGE.replace('P', 'R'), 288, 0, 35, NONE);
        whole("P", 10, 0, 36, 0);
        whole("PP", 10, 0, 36, 1);
    }

    private static void placesAlone() {
        Check.says("(PLACES alone)");
        WheelAndWire x = Check.made("PP/PP");
        x.order(20, 0, 0);
        x.cut(0, true, 1);
        x.pass(999);
        x.trim(0);
        Check.due("weighs(0)", x.weighs(0), 0);
        Check.due("whole()", x.whole(), 2);
        Check.due("first()", x.first(), 1);
    }

    private static void orders(String text, int asks, int each, int due) {
        WheelAndWire x = Check.made(text);
        for (int i = 0; i < asks; i++) {
            x.order(each, 0, 0);
        }
        Check.due("whole() of " + text + " for " + asks + " of " + each, x.whole(), due);
    }

    private static void blocksOfTheirOwn() {
        Check.says("so that each ASK of THE ORDER has a BLOCK of its own");
        orders("P", 1, 10, 0);
        orders("P", 2, 10, NONE);
        orders("PP", 2, 10, 1);
        orders("PP", 3, 10, NONE);
        orders("PPP", 3, 10, 2);
        orders("PPP", 4, 10, NONE);
        orders("PPPP", 4, 10, 3);
        orders("PP/PP", 4, 10, 4);
        orders("PP/PP", 2, 20, 2);
        orders(LARGE, 4, 90, 12);
        WheelAndWire wide = Check.made("P");
        wide.order(1, 99, 36);
        wide.order(1, 99, 36);
        Check.due("whole(): one place for two asks", wide.whole(), NONE);
    }

    private static void asTheFormWasAtFirst() {
        Check.says("by which the FORM as it was at first is CUT");
        WheelAndWire x = Check.made("PPP");
        x.order(30, 0, 0);
        x.cut(0, false, 1);
        x.sell(0, true);
        x.sell(1, false);
        Check.due("whole()", x.whole(), 0);
        Check.due("first()", x.first(), NONE);
        Check.put(x, "PPPPP");
        Check.due("whole(): not yet of the text", x.whole(), 0);
        x.form();
        Check.due("whole()", x.whole(), 1);
        Check.due("first()", x.first(), 102);
        Check.due("count(0): nothing is cut", x.count(0), 1);
    }

    private static void first(String text, int a, int o, int r, int due) {
        WheelAndWire x = Check.made(text);
        x.order(a, o, r);
        Check.due("first() of " + text + " for " + a + ", " + o + ", " + r, x.first(), due);
        Check.due("count(0): nothing is cut", x.count(0), 1);
    }

    private static void theFirstCut() {
        Check.says("THE FIRST CUT: 100 if it is along, and x; NONE.");
        first("PP", 10, 0, 0, 101);
        first("P/P", 10, 0, 0, 1);
        first("RRRRRP", 10, 0, 0, 105);
        first("R/R/R/R/R/P", 10, 0, 0, 5);
        Check.says("THE FIRST CUT of such a way: across ahead of along, the least x");
        first("PP/PP", 20, 0, 0, 1);
        first("PRP/PPP/PPP", 30, 0, 0, 2);
        first("PRP/PPP/PRP", 30, 0, 0, 101);
        first("PPP/PPP", 20, 0, 0, 101);
        first("PPPP", 30, 0, 0, 101);
        first("PPPP", 20, 10, 0, 101);
        first("PPPP", 20, 0, 0, 102);
        first("P/P/P/P", 30, 0, 0, 1);
        first("P/P/P/P", 20, 0, 0, 2);
        WheelAndWire x = Check.made("PPPPP");
        x.order(20, 0, 0);
        x.order(10, 0, 0);
        Check.due("whole()", x.whole(), 2);
        Check.due("first(): the least x of all ways", x.first(), 101);
    }

    private static void noFirstCut() {
        Check.says("NONE: none is needed, or there is no way.");
        first("PP", 20, 0, 0, NONE);
        first("PP", 15, 0, 0, NONE);
        first("P", 10, 0, 0, NONE);
        first("P", 9, 0, 0, NONE);
        Check.due("first() for no ask", Check.made("PP").first(), NONE);
    }

    private static void fairBy1To36() {
        Check.says("FAIR by n (1 .. 36)");
        WheelAndWire x = Check.made(LARGE);
        Check.due("fair(1)", x.fair(1), 0);
        Check.due("fair(2)", x.fair(2), 6);
        Check.due("fair(24)", x.fair(24), NONE);
        Check.due("fair(35)", x.fair(35), NONE);
        Check.due("fair(36)", x.fair(36), 60);
        Check.says("FAIR: the shortest wire; NONE. BAD: n.");
        int[] refused = {MIN, -36, -1, 0, 37, 38, MAX};
        for (int n : refused) {
            Check.due("fair(" + n + ")", x.fair(n), BAD);
        }
        x.cut(0, true, 1);
        x.sell(0, false);
        x.pass(9);
        Check.due("fair(36): of the form", x.fair(36), 60);
        Check.due("fair(36) of rind", Check.made(LARGE.replace('P', 'R')).fair(36), 60);
    }

    private static void fairs(String text, int... due) {
        WheelAndWire x = Check.made(text);
        for (int n = 1; n <= due.length; n++) {
            Check.due("fair(" + n + ") of " + text, x.fair(n), due[n - 1]);
        }
        Check.due("fair(36) of " + text, x.fair(36), NONE);
    }

    private static void moreThan0() {
        Check.says("into n BLOCKS of like weight (more than 0)");
        fairs("A", NONE, NONE);
        fairs("AA/AA", NONE, NONE, NONE, NONE);
        fairs("PA", 0, NONE, NONE);
        fairs("PAP", 0, 1, NONE, NONE);
        fairs("RA/AR", 0, 2, NONE, NONE);
    }

    private static void likeRind() {
        Check.says("and like PLACES of rind");
        fairs("RRRRR/PPPPA", 0, NONE, NONE);
        fairs("RR/PP", 0, 2, NONE, NONE);
        fairs("RP", 0, NONE);
        fairs("RPPR", 0, 1, NONE, NONE);
        fairs("ARR", 0, 1, NONE);
        fairs("A/R/R", 0, 1, NONE);
        fairs("PPPP/RRRR", 0, 2, NONE, 6, NONE);
    }

    private static void noFairCut() {
        Check.says("by how short a wire; NONE");
        fairs("P", 0, NONE);
        fairs("PPP", 0, NONE, 2, NONE);
        fairs("PPP/PPP", 0, 3, 4, NONE, NONE, 7, NONE);
        fairs("PPA/PPP", 0, NONE, NONE, NONE, 6, NONE);
    }

    private static void sixLeftAtMost() {
        Check.says("LEFT are BLOCKS that are told, 6 at most");
        WheelAndWire x = Check.made(LARGE);
        for (int i = 0; i < 6; i++) {
            Check.due("left(" + (1000 * i + 13) + ")", x.left(1000 * i + 13), i + 1);
            Check.due("count(4)", x.count(4), i + 1);
        }
        Check.due("read()", x.read(), 6);
        Check.due("left(311): a seventh", x.left(311), FULL);
        Check.due("left(363): a seventh", x.left(363), FULL);
        Check.due("count(4)", x.count(4), 6);
        Check.due("read(): as it was", x.read(), 6);
        Check.says("BLOCKS that are LEFT are gone: how many there were.");
        Check.due("unleft()", x.unleft(), 6);
        Check.due("unleft()", x.unleft(), 0);
        Check.due("count(4)", x.count(4), 0);
        Check.due("read()", x.read(), 0);
        Check.due("left(13): there is room again", x.left(13), 1);
    }

    private static void leftInNoOther() {
        Check.says("A BLOCK that is LEFT: how many there are.");
        WheelAndWire one = new WheelAndWire();
        Check.due("left(11)", one.left(11), 1);
        Check.due("left(11) again", one.left(11), LATE);
        Check.says("none in another one's PLACES");
        int[] apart = {13, 11, 111, 211, 31, 1011, 1021, 21, 231, 1211, 1221, 2013, 2011, 2111, 2211};
        int[] within = {33, 22, 121, 131, 1111, 1112, 1013, 1122, 1121, 122, 1012, 32, 132};
        Check.says("LATE: some PLACE is in another one");
        for (int block : apart) {
            WheelAndWire x = Check.made("PPP/PPP/PPP");
            x.left(1111);
            Check.due("left(" + block + ") beside 1111", x.left(block), 2);
        }
        for (int block : within) {
            WheelAndWire x = Check.made("PPP/PPP/PPP");
            x.left(1111);
            Check.due("left(" + block + ") with 1111", x.left(block), LATE);
            Check.due("count(4)", x.count(4), 1);
            Check.due("read(): as it was", x.read(), 4);
        }
        WheelAndWire last = Check.made("PPP/PPP/PPP");
        last.left(13);
        last.left(1013);
        Check.due("left(2121): not of the form", last.left(2121), UNKNOWN);
        Check.due("left(1112): in the second one", last.left(1112), LATE);
        Check.due("left(121): in both", last.left(121), LATE);
        Check.due("left(2013)", last.left(2013), 3);
    }

    private static Set<Integer> blocks(int rows, int columns) {
        Set<Integer> all = new HashSet<>();
        for (int r = 0; r < rows; r++) {
            for (int c = 0; c < columns; c++) {
                for (int high = 1; r + high <= rows; high++) {
                    for (int wide = 1; c + wide <= columns; wide++) {
                        all.add(1000 * r + 100 * c + 10 * high + wide);
                    }
                }
            }
        }
        return all;
    }

    private static void leftOfTheForm() {
        Check.says("UNKNOWN: it is not of the FORM");
        String[] texts = {"P", "PPP/PPP", "P/P/P/P/P/P", LARGE};
        for (String text : texts) {
            String[] rows = text.split("/");
            Set<Integer> blocks = blocks(rows.length, rows[0].length());
            WheelAndWire x = null;
            for (int block = -7000; block < 17000; block++) {
                if (x == null || block % 100 == 0) {
                    x = Check.made(text);
                }
                boolean isOne = blocks.contains(block);
                Check.due("left(" + block + ") of " + text, x.left(block), isOne ? 1 : UNKNOWN);
                Check.due("unleft()", x.unleft(), isOne ? 1 : 0);
            }
            int[] far = {MIN, MIN + 11, -100011, 100011, 1000011, MAX - 1, MAX};
            for (int block : far) {
                Check.due("left(" + block + ") of " + text, x.left(block), UNKNOWN);
            }
        }
        Check.says("how many ROWS, and how many COLUMNS (1 and more each)");
        WheelAndWire x = Check.made("PPP/PPP");
        int[] without = {0, 1, 3, 10, 20, 1001, 1010, 201, 210};
        for (int block : without) {
            Check.due("left(" + block + ")", x.left(block), UNKNOWN);
        }
    }

    private static void whichIsToldFirst() {
        Check.says("UNKNOWN: it is not of the FORM; LATE: some PLACE is in another one; FULL: 6.");
        WheelAndWire x = Check.made("PPPPPP/PPPPPP");
        x.left(11);
        Check.due("left(31): UNKNOWN ahead of LATE", x.left(31), UNKNOWN);
        Check.due("left(17): UNKNOWN ahead of LATE", x.left(17), UNKNOWN);
        for (int column = 1; column < 6; column++) {
            x.left(100 * column + 11);
        }
        Check.due("count(4)", x.count(4), 6);
        Check.due("left(31): UNKNOWN ahead of LATE and FULL", x.left(31), UNKNOWN);
        Check.due("left(2011): UNKNOWN ahead of FULL", x.left(2011), UNKNOWN);
        Check.due("left(-11): UNKNOWN ahead of FULL", x.left(-11), UNKNOWN);
        Check.due("left(21): LATE ahead of FULL", x.left(21), LATE);
        Check.due("left(511): LATE ahead of FULL", x.left(511), LATE);
        Check.due("left(1011): FULL", x.left(1011), FULL);
    }

    private static void reads(String text, int due, int... blocks) {
        WheelAndWire x = Check.made(text);
        StringBuilder told = new StringBuilder();
        for (int i = 0; i < blocks.length; i++) {
            Check.due("left(" + blocks[i] + ")", x.left(blocks[i]), i + 1);
            told.append(' ').append(blocks[i]);
        }
        Check.due("read() of" + told + " in " + text, x.read(), due);
    }

    private static void byHowFewCuts() {
        Check.says("READ: by how few CUTS of the FORM all of them come to be BLOCKS of their own (other BLOCKS may be anything)");
        reads("P", 0, 11);
        reads(LARGE, 0, 66);
        reads(LARGE, 1, 16);
        reads(LARGE, 1, 61);
        reads(LARGE, 2, 1016);
        reads(LARGE, 2, 161);
        reads(LARGE, 2, 11);
        reads(LARGE, 2, 511);
        reads(LARGE, 2, 5011);
        reads(LARGE, 2, 5511);
        reads(LARGE, 3, 111);
        reads(LARGE, 3, 1011);
        reads(LARGE, 4, 1111);
        reads(LARGE, 1, 36, 3036);
        reads(LARGE, 3, 33, 333, 3033, 3333);
        reads(LARGE, 5, 16, 1016, 2016, 3016, 4016, 5016);
        reads("PP", 1, 11);
        reads("PP", 1, 11, 111);
        reads("PPP/PPP/PPP", 3, 12, 221);
        reads(LARGE, 10, 1111, 1311, 3111, 3311);
    }

    private static void readByNone() {
        Check.says("NONE: by none.");
        reads("PPP/PPP/PPP", 4, 12, 221, 2112);
        reads("PPP/PPP/PPP", NONE, 12, 221, 2112, 1021);
        reads("PPP/PPP/PPP", NONE, 12, 221, 2112, 1021, 1111);
        reads("PPP/PPP/PPP", NONE, 21, 112, 1221, 2012);
        reads(LARGE, NONE, 12, 221, 2112, 1021, 3333);
    }

    private static void readOfNone() {
        Check.says("READ; NONE.");
        Check.due("read() at first", new WheelAndWire().read(), 0);
        Check.due("read() of nothing", Check.made(LARGE).read(), 0);
        WheelAndWire x = Check.made("PPP/PPP/PPP");
        x.cut(0, true, 1);
        x.sell(0, false);
        x.left(13);
        Check.due("read(): of the form, whatever was cut of it", x.read(), 1);
        Check.due("count(0): nothing is cut", x.count(0), 2);
    }
}
