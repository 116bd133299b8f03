import java.util.ArrayList;
import java.util.Arrays;
import java.util.HashMap;
import java.util.HashSet;
import java.util.List;
import java.util.Map;
import java.util.Random;
import java.util.Set;

/**
 * Promises 22, 23, 24 and 26 by the document's own words: all that straight cuts can make of a
 * small form is listed, and the best of what meets an order, is fair, or has the blocks that are
 * left is looked for in the list.
 */
public final class PartitionTest {
    private static final int NONE = WheelAndWire.NONE;

    /** Blocks as the document tells them, the wire that made them, and all cuts that can have come first. */
    private static final class Cutting {
        final int[] blocks;
        final int wire;
        final List<Integer> firsts = new ArrayList<>();

        Cutting(int[] blocks, int high, int wide) {
            this.blocks = blocks;
            int around = 0;
            for (int block : blocks) {
                around += 2 * (block / 10 % 10 + block % 10);
            }
            wire = (around - 2 * (high + wide)) / 2;
            for (int x = 1; x < high; x++) {
                if (straight(1000, 10, x)) {
                    firsts.add(x);
                }
            }
            for (int x = 1; x < wide; x++) {
                if (straight(100, 1, x)) {
                    firsts.add(100 + x);
                }
            }
        }

        private boolean straight(int start, int length, int x) {
            for (int block : blocks) {
                int from = block / start % 10;
                if (from < x && from + block / length % 10 > x) {
                    return false;
                }
            }
            return true;
        }
    }

    private final Map<Integer, Set<String>> known = new HashMap<>();
    private final List<Cutting> cuttings = new ArrayList<>();
    private final int high;
    private final int wide;
    private final Random lot;

    private PartitionTest(int high, int wide) {
        this.high = high;
        this.wide = wide;
        this.lot = new Random(100 * high + wide);
        for (String blocks : madeOf(10 * high + wide)) {
            int[] all = Arrays.stream(blocks.trim().split(" ")).mapToInt(Integer::parseInt).toArray();
            cuttings.add(new Cutting(all, high, wide));
        }
    }

    public static void main(String[] args) {
        int[][] sizes = {{1, 1}, {1, 6}, {6, 1}, {2, 2}, {2, 3}, {3, 3}, {2, 5}, {4, 3}, {3, 4}, {6, 2}};
        for (int[] size : sizes) {
            PartitionTest test = new PartitionTest(size[0], size[1]);
            for (int i = 0; i < 150; i++) {
                test.compare();
            }
        }
        Check.end();
    }

    private Set<String> madeOf(int block) {
        if (known.containsKey(block)) {
            return known.get(block);
        }
        Set<String> all = new HashSet<>();
        all.add(" " + block);
        int rows = block / 10 % 10;
        int columns = block % 10;
        for (int x = 1; x < rows; x++) {
            join(all, madeOf(block - 10 * (rows - x)), madeOf(block + 1000 * x - 10 * x));
        }
        for (int x = 1; x < columns; x++) {
            join(all, madeOf(block - (columns - x)), madeOf(block + 100 * x - x));
        }
        known.put(block, all);
        return all;
    }

    private static void join(Set<String> all, Set<String> ahead, Set<String> behind) {
        for (String one : ahead) {
            for (String other : behind) {
                String[] blocks = (one + other).trim().split(" ");
                Arrays.sort(blocks);
                all.add(" " + String.join(" ", blocks));
            }
        }
    }

    private void compare() {
        String signs = new String[] {"PRA", "P", "PPPPRRA", "PPPPPPPPR"}[lot.nextInt(4)];
        StringBuilder text = new StringBuilder();
        for (int r = 0; r < high; r++) {
            text.append(r > 0 ? "/" : "");
            for (int c = 0; c < wide; c++) {
                text.append(signs.charAt(lot.nextInt(signs.length())));
            }
        }
        WheelAndWire x = Check.made(text.toString());
        String[] rows = text.toString().split("/");
        compareOrder(x, rows);
        for (int n = 1; n <= high * wide; n++) {
            Check.due("fair(" + n + ") of " + text, x.fair(n), fair(rows, n));
        }
        compareLeft(x);
    }

    private int someBlock() {
        int[] blocks = cuttings.get(lot.nextInt(cuttings.size())).blocks;
        return blocks[lot.nextInt(blocks.length)];
    }

    private static int sum(String[] rows, int block, int paste, int rind) {
        int sum = 0;
        for (int r = block / 1000; r < block / 1000 + block / 10 % 10; r++) {
            for (int c = block / 100 % 10; c < block / 100 % 10 + block % 10; c++) {
                sum += rows[r].charAt(c) == 'P' ? paste : rows[r].charAt(c) == 'R' ? rind : 0;
            }
        }
        return sum;
    }

    private void compareOrder(WheelAndWire x, String[] rows) {
        List<int[]> asks = new ArrayList<>();
        StringBuilder told = new StringBuilder(String.join("/", rows));
        for (int i = lot.nextInt(5); i > 0; i--) {
            int block = someBlock();
            int over = lot.nextInt(12);
            int weight = Math.max(1, sum(rows, block, 10, 8) - lot.nextInt(over + 1));
            int rind = lot.nextInt(3) == 0 ? lot.nextInt(3) : 36;
            asks.add(new int[] {weight, over, rind});
            x.order(weight, over, rind);
            told.append(" ").append(weight).append("+").append(over).append(",").append(rind);
        }
        int best = Integer.MAX_VALUE;
        int first = NONE;
        for (Cutting cutting : cuttings) {
            if (cutting.wire <= best && meets(rows, cutting.blocks, asks, 0, 0)) {
                int itsFirst = cutting.firsts.isEmpty() ? NONE : cutting.firsts.get(0);
                first = cutting.wire < best ? itsFirst : Math.min(first, itsFirst);
                best = cutting.wire;
            }
        }
        Check.due("whole() of " + told, x.whole(), best == Integer.MAX_VALUE ? NONE : best);
        Check.due("first() of " + told, x.first(), best == 0 ? NONE : first);
    }

    private static boolean meets(String[] rows, int[] blocks, List<int[]> asks, int from, int taken) {
        if (from == asks.size()) {
            return true;
        }
        int[] ask = asks.get(from);
        for (int i = 0; i < blocks.length; i++) {
            int weight = sum(rows, blocks[i], 10, 8);
            boolean serves = weight >= ask[0] && weight <= ask[0] + ask[1] && sum(rows, blocks[i], 0, 1) <= ask[2];
            if ((taken >> i & 1) == 0 && serves && meets(rows, blocks, asks, from + 1, taken | 1 << i)) {
                return true;
            }
        }
        return false;
    }

    private int fair(String[] rows, int n) {
        int best = Integer.MAX_VALUE;
        for (Cutting cutting : cuttings) {
            boolean alike = cutting.blocks.length == n;
            int weight = sum(rows, cutting.blocks[0], 10, 8);
            int rind = sum(rows, cutting.blocks[0], 0, 1);
            for (int i = 0; i < cutting.blocks.length && alike; i++) {
                alike = weight > 0 && sum(rows, cutting.blocks[i], 10, 8) == weight && sum(rows, cutting.blocks[i], 0, 1) == rind;
            }
            best = alike ? Math.min(best, cutting.wire) : best;
        }
        return best == Integer.MAX_VALUE ? NONE : best;
    }

    private void compareLeft(WheelAndWire x) {
        List<Integer> left = new ArrayList<>();
        for (int i = 0; i < 10; i++) {
            int block = someBlock();
            if (x.left(block) > 0) {
                left.add(block);
            }
        }
        int best = Integer.MAX_VALUE;
        for (Cutting cutting : cuttings) {
            boolean all = true;
            for (int block : left) {
                boolean here = false;
                for (int other : cutting.blocks) {
                    here |= other == block;
                }
                all &= here;
            }
            best = all ? Math.min(best, cutting.blocks.length - 1) : best;
        }
        Check.due("read() of " + left, x.read(), best == Integer.MAX_VALUE ? NONE : best);
    }
}
