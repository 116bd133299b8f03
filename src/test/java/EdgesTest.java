import java.lang.reflect.Method;
import java.util.ArrayList;
import java.util.Arrays;
import java.util.HashMap;
import java.util.List;
import java.util.Map;

/**
 * Every call with every combination of numbers at, below and above where its arguments end, at first, in the midst and
 * where all is full: each answer, and what is there afterwards, compared with the Model's.
 */
public final class EdgesTest {
    private static final int MIN = Integer.MIN_VALUE, MAX = Integer.MAX_VALUE;
    private static final int BATCH = 150; // with what makes a scene and what is told at the end under 512 calls
    private static final Object[] BOTH = {false, true};
    private static final Object[] PIECES = {MIN, -1, 0, 1, 2, 3, 4, 5, 7, 8, 22, 23, 24, MAX};
    private static final Object[] WEIGHTS = {MIN, 0, 1, 8, 10, 20, 60, 360, 361, MAX};
    private static final Object[] OVERS = {MIN, -1, 0, 1, 99, 100, MAX};
    private static final Object[] RINDS = {MIN, -1, 0, 1, 36, 37, MAX};
    private static final Object[] FEW_WEIGHTS = {0, 1, 10, 30, 360, 361};
    private static final Object[] FEW_OVERS = {-1, 0, 12, 99, 100};
    private static final Object[] FEW_RINDS = {-1, 0, 36, 37};
    private static final Object[] TASTES = {MIN, -1, 0, 1, 8, 9, 10, MAX};
    private static final Object[] DAYS = {MIN, -1, 0, 4, 5, 7, 10, 11, 12, 13, 998, 999, 1000, MAX};
    private static final Object[] HUNDRED = {MIN, -1, 0, 1, 12, 98, 99, 100, MAX};
    private static final Object[] SLOTS = {MIN, -1, 0, 1, 2, MAX};
    /** One behind the other: up to 9998, too many, 9999, too many. */
    private static final Object[] PASSES = {MIN, -1, 0, 1, 2, 998, 999, 1000, 9999, 999, 999, 999, 999, 999, 999, 999, 998, 2, 1, 1, MAX};
    private static final Object[] BLOCKS = {MIN, -11, 0, 1, 10, 11, 12, 22, 33, 34, 43, 66, 67, 76, 211, 311, 2011, 2033, 2211,
        3011, 5511, 5512, 6011, 10011, MAX};
    private static final Object[] TEXTS = {0L, 80L, 47L, -1L, 0x5050505050505050L, 0x50502F50502F5050L, Long.MIN_VALUE, Long.MAX_VALUE};

    private static final Map<String, Method> OURS = new HashMap<>();
    private static final Map<String, Method> DUE = new HashMap<>();

    private final List<Object[]> scene;
    private WheelAndWire x;
    private Model m;
    private int calls = BATCH;

    private EdgesTest(List<Object[]> scene) {
        this.scene = scene;
    }

    public static void main(String[] args) throws Exception {
        for (Method method : WheelAndWire.class.getMethods()) {
            OURS.put(method.getName(), method);
        }
        for (Method method : Model.class.getDeclaredMethods()) {
            if (OURS.containsKey(method.getName()) && method.getParameterCount() == OURS.get(method.getName()).getParameterCount()) {
                method.setAccessible(true);
                DUE.put(method.getName(), method);
            }
        }
        List<List<Object[]>> scenes = List.of(new ArrayList<>(), midst(), full());
        for (List<Object[]> scene : scenes) {
            new EdgesTest(scene).all();
        }
        Check.end();
    }

    private static void add(List<Object[]> calls, Object... call) {
        calls.add(call);
    }

    private static void addText(List<Object[]> calls, String text) {
        add(calls, "wipe");
        for (char sign : text.toCharArray()) {
            add(calls, "write", 1, (long) sign);
        }
    }

    private static List<Object[]> midst() {
        List<Object[]> calls = new ArrayList<>();
        addText(calls, "PRP/PPP/APP");
        add(calls, "form");
        add(calls, "cut", 0, true, 2);
        add(calls, "cut", 0, false, 1);
        add(calls, "pass", 5);
        add(calls, "keep", 1);
        add(calls, "cut", 1, false, 1);
        add(calls, "wrap", 2, 2);
        add(calls, "trim", 0);
        add(calls, "pass", 3);
        add(calls, "sell", 1, false);
        add(calls, "order", 18, 2, 1);
        add(calls, "left", 12);
        add(calls, "book", 7);
        add(calls, "book", 30);
        add(calls, "taste", 8, false);
        return calls;
    }

    private static List<Object[]> full() {
        List<Object[]> calls = new ArrayList<>();
        addText(calls, "PPPPPP/PPPPPP/PPPPPP/PPPPPP/PPRPPP/PPPAPP");
        add(calls, "form");
        for (int row = 0; row < 5; row++) {
            add(calls, "cut", row, true, 1);
        }
        for (int i = 0; i < 18; i++) {
            add(calls, "cut", i % 5 == 0 ? i / 5 : 5 + i, false, 1);
        }
        add(calls, "keep", 0);
        for (int i = 0; i < 4; i++) {
            add(calls, "order", 20 + 10 * i, 5, 1);
        }
        for (int i = 0; i < 6; i++) {
            add(calls, "left", 1000 * i + 12);
        }
        for (int i = 0; i < 16; i++) {
            add(calls, "book", 6 * i);
        }
        add(calls, "pass", 3);
        add(calls, "sell", 7, true);
        add(calls, "write", 7, 0x2F505050505050L);
        return calls;
    }

    private void all() throws Exception {
        every("write", new Object[] {MIN, -1, 0, 1, 2, 7, 8, 9, MAX}, TEXTS);
        every("place", new Object[] {MIN, -1, 0, 2, 3, 5, 6, MAX}, new Object[] {MIN, -1, 0, 2, 3, 5, 6, MAX});
        every("cut", PIECES, BOTH, new Object[] {MIN, -1, 0, 1, 2, 3, 5, 6, MAX});
        every("about", PIECES, new Object[] {MIN, -1, 0, 1, 2, 3, 4, 5, 6, 7, 8, MAX});
        every("weighs", new Object[][] {PIECES});
        every("pass", new Object[][] {PASSES});
        every("wrap", PIECES, new Object[] {MIN, -1, 0, 1, 2, 3, MAX});
        every("trim", new Object[][] {PIECES});
        every("sell", PIECES, BOTH);
        every("serves", PIECES, WEIGHTS, OVERS, RINDS);
        every("stands", WEIGHTS, OVERS, RINDS);
        every("next", WEIGHTS, OVERS, RINDS);
        every("serve", WEIGHTS, OVERS, RINDS);
        every("two", FEW_WEIGHTS, FEW_OVERS, FEW_WEIGHTS, FEW_OVERS, FEW_RINDS);
        every("twoFirst", FEW_WEIGHTS, FEW_OVERS, FEW_WEIGHTS, FEW_OVERS, FEW_RINDS);
        every("order", WEIGHTS, OVERS, RINDS);
        every("fair", new Object[][] {{MIN, -1, 0, 1, 2, 3, 4, 6, 8, 9, 18, 35, 36, 37, MAX}});
        every("left", new Object[][] {BLOCKS});
        every("ripens", new Object[] {MIN, -1, 0, 1, 29, 30, 31, MAX}, new Object[] {MIN, -1, 0, 1, 2, 29, 30, 31, MAX});
        every("ripe", PIECES, DAYS, BOTH);
        every("ripest", new Object[][] {DAYS});
        every("book", new Object[][] {HUNDRED});
        every("over", new Object[][] {HUNDRED});
        every("taste", TASTES, BOTH);
        every("brings", TASTES, BOTH);
        every("prices", new Object[] {MIN, -1, 0, 1, 2, 8, 9, 10, MAX}, new Object[] {MIN, -1, 0, 1, 8, 9, 10, MAX});
        every("keep", new Object[][] {SLOTS});
        every("again", new Object[][] {SLOTS});
        every("count", new Object[][] {{MIN, -1, 0, 1, 2, 3, 4, 5, 6, 7, MAX}});
    }

    private void every(String name, Object[]... values) throws Exception {
        startAnew();
        Object[] call = new Object[values.length + 1];
        call[0] = name;
        choose(call, 1, values);
        compareWhatIsThere();
    }

    private void choose(Object[] call, int from, Object[][] values) throws Exception {
        if (from == call.length) {
            if (calls == BATCH) {
                compareWhatIsThere();
                startAnew();
            }
            calls++;
            both(call);
            return;
        }
        for (Object value : values[from - 1]) {
            call[from] = value;
            choose(call, from + 1, values);
        }
    }

    private void startAnew() throws Exception {
        x = new WheelAndWire();
        m = new Model();
        calls = 0;
        for (Object[] call : scene) {
            both(call);
        }
    }

    private void both(Object... call) throws Exception {
        Object[] arguments = Arrays.copyOfRange(call, 1, call.length);
        long got = ((Number) OURS.get(call[0]).invoke(x, arguments)).longValue();
        long due = ((Number) DUE.get(call[0]).invoke(m, arguments)).longValue();
        Check.due(call[0] + Arrays.toString(arguments) + " with " + scene.size() + " calls ahead", got, due);
    }

    private void compareWhatIsThere() throws Exception {
        for (int what = 0; what < 7; what++) {
            both("count", what);
        }
        both("fault");
        both("whole");
        both("first");
        both("read");
        both("bestOver");
        both("bestTaste");
        both("worth");
        for (int piece = 0; piece < m.count(0); piece++) {
            for (int what = 0; what < 7; what++) {
                both("about", piece, what);
            }
        }
    }
}
