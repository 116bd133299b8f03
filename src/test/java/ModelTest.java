import java.util.Random;

/** Long runs of calls drawn by lot (always the same lot), each answer compared with the Model's. */
public final class ModelTest {
    private static final int RUNS = 1000;
    private static final int CALLS = 512;
    private static final int ROOM = 60; // more than one step here may call
    private static final int LITTLE_ROOM = 2; // as much as a step that makes no form may call
    private static final int[] WILD = {Integer.MIN_VALUE, -1000000, -9, -2, -1, 0, 7, 10, 24, 37, 100, 361, 1000, Integer.MAX_VALUE};

    private final Random lot;
    private final WheelAndWire x = new WheelAndWire();
    private final Model m = new Model();
    private final int kind;
    private final StringBuilder told = new StringBuilder();
    private int calls = 0;

    private ModelTest(int run) {
        lot = new Random(run);
        kind = run % 4;
    }

    public static void main(String[] args) {
        for (int run = 0; run < RUNS && Check.wrongSoFar() == 0; run++) {
            new ModelTest(run).run();
        }
        Check.end();
    }

    private void run() {
        anotherForm();
        while (calls < CALLS - ROOM && Check.wrongSoFar() == 0) {
            call(lot.nextInt(60));
        }
        while (calls <= CALLS - LITTLE_ROOM && Check.wrongSoFar() == 0) {
            smallCall(lot.nextInt(4));
        }
        while (calls < CALLS && Check.wrongSoFar() == 0) {
            due("worth()", x.worth(), m.worth());
        }
        if (Check.wrongSoFar() != 0) {
            System.out.println(told);
        }
    }

    private int from(int least, int most) {
        return lot.nextInt(40) == 0 ? WILD[lot.nextInt(WILD.length)] : least + lot.nextInt(most - least + 1);
    }

    /** Mostly one that stands. */
    private int piece() {
        int piece = from(0, Math.max(0, m.count(0) - 1));
        for (int tries = 0; tries < 5 && m.about(piece, 1) > 0; tries++) {
            piece = from(0, Math.max(0, m.count(0) - 1));
        }
        return piece;
    }

    /** Mostly that of some block, of a piece, or of a part of a piece. */
    private int weight() {
        int block = m.about(lot.nextInt(m.count(0)), 0);
        if (lot.nextInt(3) == 0) {
            block = block();
        }
        int row = block / 1000;
        int column = block / 100 % 10;
        int high = block / 10 % 10;
        int wide = block % 10;
        if (lot.nextBoolean()) {
            high = lot.nextBoolean() ? 1 + lot.nextInt(high) : high;
            wide = lot.nextBoolean() ? 1 + lot.nextInt(wide) : wide;
        }
        int weight = m.heavy(row, column, row + high, column + wide) - (lot.nextBoolean() ? lot.nextInt(12) : 0);
        return lot.nextInt(30) == 0 ? from(1, 360) : Math.max(1, weight);
    }

    private int block() {
        int row = lot.nextInt(m.high());
        int column = lot.nextInt(m.wide());
        int high = 1 + lot.nextInt(Math.min(3, m.high() - row));
        int wide = 1 + lot.nextInt(Math.min(3, m.wide() - column));
        return 1000 * row + 100 * column + 10 * high + wide;
    }

    private int over() {
        return from(0, lot.nextInt(3) == 0 ? 99 : 15);
    }

    private int rind() {
        return from(0, lot.nextInt(2) == 0 ? 36 : 3);
    }

    private void due(String call, long got, long want) {
        calls++;
        told.append(call).append(" -> ").append(want).append('\n');
        Check.due(call, got, want);
    }

    private void anotherForm() {
        int most = kind == 0 ? 3 : 6;
        int high = 1 + lot.nextInt(most);
        int wide = 1 + lot.nextInt(most);
        if (kind >= 2) {
            high = 5 + lot.nextInt(2);
            wide = 5 + lot.nextInt(2);
        }
        String signs = new String[] {"PRA", "PPPPPPPP", "PPPPRRA", "PPPPPPPPR"}[lot.nextInt(4)];
        due("wipe()", x.wipe(), m.wipe());
        for (int r = 0; r < high; r++) {
            long v = r > 0 ? '/' : 0;
            for (int c = 0; c < wide; c++) {
                v = v << 8 | signs.charAt(lot.nextInt(signs.length()));
            }
            int n = wide + (r > 0 ? 1 : 0);
            due("write(" + n + ", " + v + ")", x.write(n, v), m.write(n, v));
        }
        due("form()", x.form(), m.form());
        for (int i = lot.nextInt(24); i > 0 && kind == 3; i--) {
            cutSome(piece(), lot.nextBoolean());
        }
    }

    private void cutSome(int piece, boolean flag) {
        int block = Math.max(0, m.about(piece, 0));
        boolean across = block / 10 % 10 > 1 && (flag || block % 10 == 1);
        int at = from(1, Math.max(1, (across ? block / 10 % 10 : block % 10) - 1));
        due("cut(" + piece + ", " + across + ", " + at + ")", x.cut(piece, across, at), m.cut(piece, across, at));
    }

    private void someText() {
        if (lot.nextInt(3) == 0) {
            due("wipe()", x.wipe(), m.wipe());
        }
        int n = from(1, 8);
        long v = 0;
        for (int i = 0; i < 8; i++) {
            v = v << 8 | (lot.nextInt(30) == 0 ? lot.nextInt(256) : "PRA/P/".charAt(lot.nextInt(6)));
        }
        due("write(" + n + ", " + v + ")", x.write(n, v), m.write(n, v));
        due("fault()", x.fault(), m.fault());
        if (lot.nextInt(4) == 0) {
            due("form()", x.form(), m.form());
        }
    }

    private void call(int which) {
        if (which < 20) {
            pieces(which);
        } else if (which < 32) {
            asks(which - 20);
        } else if (which < 44) {
            whole(which - 32);
        } else {
            rest(which - 44);
        }
    }

    private void smallCall(int group) {
        switch (group) {
            case 0: pieces(lot.nextInt(19)); break;
            case 1: asks(lot.nextInt(12)); break;
            case 2: whole(lot.nextInt(8)); break;
            default: rest(lot.nextInt(16));
        }
    }

    private void pieces(int which) {
        int piece = piece();
        boolean flag = lot.nextBoolean();
        int n = from(0, 7);
        switch (which) {
            case 0: case 1: case 2: case 3: case 4: case 5:
                cutSome(piece, flag);
                break;
            case 6: case 7: case 8: case 9:
                due("about(" + piece + ", " + n + ")", x.about(piece, n), m.about(piece, n));
                break;
            case 10: case 11:
                due("weighs(" + piece + ")", x.weighs(piece), m.weighs(piece));
                break;
            case 12: case 13:
                int halfHours = from(1, lot.nextInt(50) == 0 ? 999 : 6);
                if (kind == 3 && halfHours < 1000 && lot.nextInt(10) > 0) {
                    break;
                }
                due("pass(" + halfHours + ")", x.pass(halfHours), m.pass(halfHours));
                break;
            case 14: case 15:
                int how = from(0, 2);
                due("wrap(" + piece + ", " + how + ")", x.wrap(piece, how), m.wrap(piece, how));
                break;
            case 16:
                due("trim(" + piece + ")", x.trim(piece), m.trim(piece));
                break;
            case 17:
                if (lot.nextInt(1 + kind) > 0) {
                    break;
                }
                due("sell(" + piece + ", " + flag + ")", x.sell(piece, flag), m.sell(piece, flag));
                break;
            case 18:
                int column = from(0, 5);
                due("place(" + n + ", " + column + ")", x.place(n, column), m.place(n, column));
                break;
            default:
                if (lot.nextInt(6) == 0 && calls < CALLS - 2 * ROOM) {
                    anotherForm();
                } else if (kind < 3) {
                    someText();
                }
        }
    }

    private void asks(int which) {
        int piece = piece();
        int a = weight();
        int o = over();
        int b = weight();
        int p = over();
        int r = rind();
        String ask = a + ", " + o + ", " + r + ")";
        String both = a + ", " + o + ", " + b + ", " + p + ", " + r + ")";
        switch (which) {
            case 0: case 1:
                due("serves(" + piece + ", " + ask, x.serves(piece, a, o, r), m.serves(piece, a, o, r));
                break;
            case 2: case 3:
                due("stands(" + ask, x.stands(a, o, r), m.stands(a, o, r));
                break;
            case 4: case 5: case 6:
                due("next(" + ask, x.next(a, o, r), m.next(a, o, r));
                break;
            case 7:
                if (lot.nextInt(1 + kind) > 0) {
                    break;
                }
                due("serve(" + ask, x.serve(a, o, r), m.serve(a, o, r));
                break;
            default:
                due("two(" + both, x.two(a, o, b, p, r), m.two(a, o, b, p, r));
                due("twoFirst(" + both, x.twoFirst(a, o, b, p, r), m.twoFirst(a, o, b, p, r));
        }
    }

    private void whole(int which) {
        switch (which) {
            case 0: case 1: case 2:
                int a = weight();
                int o = over();
                int r = rind();
                due("order(" + a + ", " + o + ", " + r + ")", x.order(a, o, r), m.order(a, o, r));
                break;
            case 3:
                due("unorder()", x.unorder(), m.unorder());
                break;
            case 4: case 5:
                if (kind < 2 || lot.nextInt(4) == 0) {
                    due("whole()", x.whole(), m.whole());
                    due("first()", x.first(), m.first());
                }
                break;
            case 6: case 7:
                int n = from(1, lot.nextBoolean() ? 36 : 6);
                due("fair(" + n + ")", x.fair(n), m.fair(n));
                break;
            case 8: case 9:
                leave(lot.nextInt(40) == 0 ? from(0, 6666) : block());
                if (lot.nextInt(6) == 0 && m.high() > 2 && m.wide() > 2) {
                    int corner = 1000 * lot.nextInt(m.high() - 2) + 100 * lot.nextInt(m.wide() - 2);
                    leave(corner + 12);
                    leave(corner + 221);
                    leave(corner + 2112);
                    leave(corner + 1021);
                }
                break;
            case 10:
                due("read()", x.read(), m.read());
                break;
            default:
                if (lot.nextInt(3) == 0) {
                    due("unleft()", x.unleft(), m.unleft());
                }
        }
    }

    private void leave(int block) {
        due("left(" + block + ")", x.left(block), m.left(block));
    }

    private void rest(int which) {
        int n = from(0, 9);
        int piece = piece();
        int day = from(0, lot.nextInt(5) == 0 ? 999 : 20);
        boolean flag = lot.nextBoolean();
        int amount = from(0, 99);
        switch (which) {
            case 0: due("ripens(" + day + ", " + n + ")", x.ripens(day, n), m.ripens(day, n)); break;
            case 1: case 2:
                due("ripe(" + piece + ", " + day + ", true)", x.ripe(piece, day, true), m.ripe(piece, day, true));
                due("ripe(" + piece + ", " + day + ", false)", x.ripe(piece, day, false), m.ripe(piece, day, false));
                break;
            case 3: due("ripest(" + day + ")", x.ripest(day), m.ripest(day)); break;
            case 4: due("book(" + amount + ")", x.book(amount), m.book(amount)); break;
            case 5: due("over(" + amount + ")", x.over(amount), m.over(amount)); break;
            case 6: due("bestOver()", x.bestOver(), m.bestOver()); break;
            case 7: due("taste(" + n + ", " + flag + ")", x.taste(n, flag), m.taste(n, flag)); break;
            case 8: due("brings(" + n + ", " + flag + ")", x.brings(n, flag), m.brings(n, flag)); break;
            case 9: due("bestTaste()", x.bestTaste(), m.bestTaste()); break;
            case 10:
                int p = from(1, 9);
                due("prices(" + p + ", " + n + ")", x.prices(p, n), m.prices(p, n));
                break;
            case 11: due("worth()", x.worth(), m.worth()); break;
            case 12: case 13:
                int slot = from(0, 1);
                if (flag) {
                    due("keep(" + slot + ")", x.keep(slot), m.keep(slot));
                } else {
                    due("again(" + slot + ")", x.again(slot), m.again(slot));
                }
                break;
            default: due("count(" + n + ")", x.count(n), m.count(n));
        }
    }
}
