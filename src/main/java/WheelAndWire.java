/**
 * A wheel of cheese and the wire that cuts it. What each call promises stands in the document
 * (../shared/DOC.md); the words row, column, block, piece, side, edge and ask are the document's.
 */
public final class WheelAndWire {
    public static final int UNKNOWN = -1, BAD = -2, LATE = -3, FULL = -4, NONE = -9;

    private static final int LONGEST = 6;
    private static final int MOST_PLACES = LONGEST * LONGEST;
    private static final int MOST_BYTES = 48;
    private static final int MOST_PIECES = 24;
    private static final int MOST_ASKS = 4;
    private static final int MOST_LEFT = 6;
    private static final int MOST_OVERS = 16;
    private static final int MOST_TASTES = 9;
    private static final int MOST_OVER = 99;
    private static final int MOST_HALF_HOURS = 9999;
    private static final int LAST_DAY = 999;
    private static final int SLOTS = 2;

    private static final int PASTE = 0, RIND = 1, AIR = 2;
    private static final int[] PLACE_WEIGHTS = {10, 8, 0};
    private static final int[] DRYING = {10, 5, 2};
    private static final int DRIED_FOR_ONE = 40;

    private static final int STANDING = 0, SOLD = 1, TASTED = 2;

    /** More wire than any way needs; two of it still fit an int. */
    private static final int NEVER = 1000000;
    private static final int MUST_CUT = -1;
    private static final int CUT_FIRST = 100000;

    private final Text text = new Text();
    private final Form cheese = new Form();
    private final Board board = new Board(cheese);
    private final Board[] slots = new Board[SLOTS];
    private final Shop shop = new Shop(cheese, board);
    private final OrderPlan orderPlan = new OrderPlan(cheese);
    private final FairPlan fairPlan = new FairPlan(cheese);
    private final LeftPlan leftPlan = new LeftPlan(cheese);
    private final Books books = new Books();
    private int price = 3;
    private int endPrice = 1;

    public WheelAndWire() {
        for (int slot = 0; slot < SLOTS; slot++) {
            slots[slot] = new Board(cheese);
        }
    }

    // ---- the form

    public int write(int n, long v) {
        if (n < 1 || n > 8) {
            return BAD;
        }
        if (text.length + n > MOST_BYTES) {
            return FULL;
        }
        text.append(n, v);
        return text.length;
    }

    public int wipe() {
        int was = text.length;
        text.length = 0;
        return was;
    }

    public int fault() {
        return text.firstFault();
    }

    public int form() {
        if (text.firstFault() != NONE) {
            return LATE;
        }
        cheese.take(text);
        board.startAnew();
        for (int slot = 0; slot < SLOTS; slot++) {
            slots[slot].filled = false;
        }
        leftPlan.empty();
        orderPlan.workedOut = false;
        return cheese.rows * cheese.columns;
    }

    public int place(int row, int column) {
        return cheese.holds(row, column, 1, 1) ? cheese.kindAt(row, column) : UNKNOWN;
    }

    // ---- pieces

    public int cut(int piece, boolean across, int x) {
        if (!board.stillHas(piece)) {
            return UNKNOWN;
        }
        Piece one = board.pieces[piece];
        if (x < 1 || x >= (across ? one.rows : one.columns)) {
            return BAD;
        }
        return board.divide(piece, across, x);
    }

    public int about(int piece, int what) {
        if (!board.knows(piece)) {
            return UNKNOWN;
        }
        Piece one = board.pieces[piece];
        switch (what) {
            case 0: return one.block();
            case 1: return one.state;
            case 2: return one.rind;
            case 3: return one.bareEdges(cheese);
            case 4: return one.dried();
            case 5: return one.off;
            case 6: return one.wrapping;
            case 7: return one.isEnd(cheese) ? 1 : 0;
            default: return BAD;
        }
    }

    public int weighs(int piece) {
        return board.knows(piece) ? board.pieces[piece].weight() : UNKNOWN;
    }

    public int pass(int halfHours) {
        if (halfHours < 1 || halfHours > 999 || board.halfHours + halfHours > MOST_HALF_HOURS) {
            return BAD;
        }
        board.goBy(halfHours);
        return board.halfHours;
    }

    public int wrap(int piece, int how) {
        if (!board.stillHas(piece)) {
            return UNKNOWN;
        }
        if (how < 0 || how >= DRYING.length) {
            return BAD;
        }
        int was = board.pieces[piece].wrapping;
        board.pieces[piece].wrapping = how;
        return was;
    }

    public int trim(int piece) {
        if (!board.stillHas(piece)) {
            return UNKNOWN;
        }
        int was = board.pieces[piece].weight();
        board.pieces[piece].shave(cheese);
        return was - board.pieces[piece].weight();
    }

    public int sell(int piece, boolean tasted) {
        if (!board.stillHas(piece)) {
            return UNKNOWN;
        }
        board.pieces[piece].state = tasted ? TASTED : SOLD;
        return board.pieces[piece].weight();
    }

    // ---- asks

    public int serves(int piece, int a, int o, int r) {
        if (!board.knows(piece)) {
            return UNKNOWN;
        }
        if (!isAsk(a, o, r)) {
            return BAD;
        }
        return new Ask(a, o, r).isServedBy(board.pieces[piece]) ? 1 : 0;
    }

    public int stands(int a, int o, int r) {
        return isAsk(a, o, r) ? shop.lightestPiece(new Ask(a, o, r)) : BAD;
    }

    public int next(int a, int o, int r) {
        if (!isAsk(a, o, r)) {
            return BAD;
        }
        Ask ask = new Ask(a, o, r);
        return shop.lightestPiece(ask) == NONE ? shop.shortestCut(ask) : NONE;
    }

    public int serve(int a, int o, int r) {
        if (!isAsk(a, o, r)) {
            return BAD;
        }
        Ask ask = new Ask(a, o, r);
        int piece = shop.lightestPiece(ask);
        if (piece == NONE) {
            piece = shop.cutOff(shop.shortestCut(ask));
        }
        if (!board.stillHas(piece)) {
            return NONE;
        }
        board.pieces[piece].state = SOLD;
        return piece;
    }

    public int two(int a, int o, int b, int p, int r) {
        if (!isAsk(a, o, r) || !isAsk(b, p, r)) {
            return BAD;
        }
        shop.lookTwoAhead(new Ask(a, o, r), new Ask(b, p, r));
        return shop.twoWire < NEVER ? shop.twoWire : NONE;
    }

    public int twoFirst(int a, int o, int b, int p, int r) {
        if (!isAsk(a, o, r) || !isAsk(b, p, r)) {
            return BAD;
        }
        shop.lookTwoAhead(new Ask(a, o, r), new Ask(b, p, r));
        return shop.twoWay;
    }

    // ---- whole ones

    public int order(int a, int o, int r) {
        if (!isAsk(a, o, r)) {
            return BAD;
        }
        if (orderPlan.size >= MOST_ASKS) {
            return FULL;
        }
        orderPlan.enter(new Ask(a, o, r));
        return orderPlan.size;
    }

    public int unorder() {
        int was = orderPlan.size;
        orderPlan.empty();
        return was;
    }

    public int whole() {
        int wire = orderPlan.shortest();
        return wire < NEVER ? wire : NONE;
    }

    public int first() {
        return orderPlan.firstCut(orderPlan.shortest());
    }

    public int fair(int n) {
        if (n < 1 || n > MOST_PLACES) {
            return BAD;
        }
        int wire = fairPlan.shortest(n);
        return wire < NEVER ? wire : NONE;
    }

    public int left(int block) {
        int row = block / 1000;
        int column = block / 100 % 10;
        int rows = block / 10 % 10;
        int columns = block % 10;
        if (!cheese.holds(row, column, rows, columns)) {
            return UNKNOWN;
        }
        if (leftPlan.touches(row, column, rows, columns)) {
            return LATE;
        }
        if (leftPlan.size >= MOST_LEFT) {
            return FULL;
        }
        leftPlan.enter(row, column, rows, columns);
        return leftPlan.size;
    }

    public int read() {
        int cuts = leftPlan.fewest();
        return cuts < NEVER ? cuts : NONE;
    }

    public int unleft() {
        int was = leftPlan.size;
        leftPlan.empty();
        return was;
    }

    // ---- ripe, books, worth

    public int ripens(int b, int k) {
        if (b < 0 || b > 30 || k < 1 || k > 30) {
            return BAD;
        }
        int was = 100 * cheese.ripeFrom + cheese.ripeFor;
        cheese.ripeFrom = b;
        cheese.ripeFor = k;
        return was;
    }

    public long ripe(int piece, int day, boolean upper) {
        if (!board.knows(piece)) {
            return UNKNOWN;
        }
        if (day < 0 || day > LAST_DAY) {
            return BAD;
        }
        Piece one = board.pieces[piece];
        long above = one.ripePlaces(cheese, day);
        long below = Math.max(1, one.pastePlaces(cheese));
        return (upper ? above : below) / commonDivisor(above, below);
    }

    public int ripest(int day) {
        return day < 0 || day > LAST_DAY ? BAD : board.ripestPiece(day);
    }

    public int book(int limit) {
        if (limit < 0 || limit > MOST_OVER) {
            return BAD;
        }
        if (books.overs >= MOST_OVERS) {
            return FULL;
        }
        books.enter(limit);
        return books.overs;
    }

    public int over(int x) {
        return x < 0 || x > MOST_OVER ? BAD : 1000 + books.earnings(x);
    }

    public int bestOver() {
        return books.dearestOver();
    }

    public int taste(int t, boolean bought) {
        if (t < 0 || t > MOST_TASTES) {
            return BAD;
        }
        books.enterTaste(t, bought);
        return books.times[t];
    }

    public long brings(int t, boolean upper) {
        if (t < 0 || t > MOST_TASTES) {
            return BAD;
        }
        long above = books.gainAbove(t);
        long below = books.gainBelow(t);
        long divisor = commonDivisor(above, below);
        return upper ? 1000000 + above / divisor : below / divisor;
    }

    public int bestTaste() {
        return books.dearestTastes();
    }

    public int prices(int p, int e) {
        if (p < 1 || p > 9 || e < 0 || e > 9) {
            return BAD;
        }
        int was = 10 * price + endPrice;
        price = p;
        endPrice = e;
        return was;
    }

    public int worth() {
        int sum = 0;
        for (int number = 0; number < board.size; number++) {
            Piece one = board.pieces[number];
            if (one.state == STANDING) {
                sum += one.weight() * (one.isEnd(cheese) ? endPrice : price);
            }
        }
        return sum;
    }

    // ---- slots

    public int keep(int slot) {
        if (slot < 0 || slot >= SLOTS) {
            return UNKNOWN;
        }
        slots[slot].become(board);
        slots[slot].filled = true;
        return board.standing();
    }

    public int again(int slot) {
        if (slot < 0 || slot >= SLOTS) {
            return UNKNOWN;
        }
        if (!slots[slot].filled) {
            return LATE;
        }
        board.become(slots[slot]);
        return board.standing();
    }

    public int count(int what) {
        switch (what) {
            case 0: return board.size;
            case 1: return board.standing();
            case 2: return board.halfHours;
            case 3: return orderPlan.size;
            case 4: return leftPlan.size;
            case 5: return text.length;
            case 6: return books.overs;
            default: return BAD;
        }
    }

    // ---- what several of them need

    private static boolean isAsk(int a, int o, int r) {
        return a >= 1 && a <= 360 && o >= 0 && o <= MOST_OVER && r >= 0 && r <= MOST_PLACES;
    }

    /** 1 at least, so that it can always divide. */
    private static long commonDivisor(long one, long other) {
        long high = Math.abs(one);
        long low = Math.abs(other);
        for (int step = 0; step < 200 && low != 0; step++) {
            long rest = high % low;
            high = low;
            low = rest;
        }
        return Math.max(1, high);
    }

    private static int kindOf(int sign) {
        switch (sign) {
            case 'P': return PASTE;
            case 'R': return RIND;
            case 'A': return AIR;
            default: return NONE;
        }
    }

    /** The bytes as they were written, whether they are a form or not. */
    private static final class Text {
        final int[] bytes = new int[MOST_BYTES];
        int length;

        void append(int n, long v) {
            for (int i = n - 1; i >= 0 && length < MOST_BYTES; i--) {
                bytes[length] = (int) (v >>> (8 * i)) & 255;
                length++;
            }
        }

        int firstFault() {
            int rows = 1;
            int signs = 0;
            int width = 0; // 0 as long as the first row has not ended
            for (int i = 0; i < length; i++) {
                if (bytes[i] == '/') {
                    if (signs == 0 || signs < width || rows == LONGEST) {
                        return i;
                    }
                    width = signs;
                    rows++;
                    signs = 0;
                } else {
                    if (kindOf(bytes[i]) == NONE || signs == (width == 0 ? LONGEST : width)) {
                        return i;
                    }
                    signs++;
                }
            }
            return signs == 0 || signs < width ? length : NONE;
        }
    }

    /** The cheese before any cut, with sums from its corner so that a block is added up at once. */
    private static final class Form {
        private static final int STEP = LONGEST + 1;

        final int[] kinds = new int[MOST_PLACES];
        final int[] weightSums = new int[STEP * STEP];
        final int[] rindSums = new int[STEP * STEP];
        int rows = 1;
        int columns = 1;
        int ripeFrom = 5;
        int ripeFor = 6;

        Form() {
            addUp();
        }

        void take(Text text) {
            int row = 0;
            int column = 0;
            for (int i = 0; i < text.length; i++) {
                if (text.bytes[i] == '/') {
                    row++;
                    column = 0;
                } else if (row < LONGEST && column < LONGEST) {
                    kinds[row * LONGEST + column] = kindOf(text.bytes[i]);
                    column++;
                }
            }
            rows = row + 1;
            columns = column;
            addUp();
        }

        void addUp() {
            for (int row = 0; row < rows; row++) {
                for (int column = 0; column < columns; column++) {
                    int kind = kindAt(row, column);
                    addPlace(weightSums, row, column, PLACE_WEIGHTS[kind]);
                    addPlace(rindSums, row, column, kind == RIND ? 1 : 0);
                }
            }
        }

        static void addPlace(int[] sums, int row, int column, int amount) {
            int corner = row * STEP + column;
            sums[corner + STEP + 1] = amount + sums[corner + STEP] + sums[corner + 1] - sums[corner];
        }

        int kindAt(int row, int column) {
            int kind = kinds[row * LONGEST + column];
            return kind == RIND || kind == AIR ? kind : PASTE;
        }

        boolean holds(int row, int column, int tall, int wide) {
            return row >= 0 && row < rows && column >= 0 && column < columns
                && tall >= 1 && tall <= rows - row && wide >= 1 && wide <= columns - column;
        }

        int weightIn(int row, int column, int tall, int wide) {
            return sumIn(weightSums, row, column, tall, wide);
        }

        int rindIn(int row, int column, int tall, int wide) {
            return sumIn(rindSums, row, column, tall, wide);
        }

        int sumIn(int[] sums, int row, int column, int tall, int wide) {
            int upper = row * STEP + column;
            int lower = upper + tall * STEP;
            if (upper < 0 || lower < upper || wide < 0 || lower + wide >= sums.length) {
                return 0;
            }
            return sums[lower + wide] - sums[lower] - sums[upper + wide] + sums[upper];
        }

        boolean isRipe(int row, int column, int day) {
            int deep = Math.min(Math.min(row, rows - 1 - row), Math.min(column, columns - 1 - column));
            int from = ripeFrom + 2 * deep;
            return kindAt(row, column) == PASTE && day >= from && day < from + ripeFor;
        }
    }

    /** A block that was cut, and what became of it. Sides at the rim never dry: theirs stay 0. */
    private static final class Piece {
        int row;
        int column;
        int rows;
        int columns;
        int placesWeight;
        int rind;
        int state;
        int wrapping;
        int off;
        int driedAbove;
        int driedBelow;
        int driedLeft;
        int driedRight;

        void becomeAll(Form form) {
            row = 0;
            column = 0;
            rows = form.rows;
            columns = form.columns;
            placesWeight = form.weightIn(row, column, rows, columns);
            rind = form.rindIn(row, column, rows, columns);
            state = STANDING;
            wrapping = 0;
            off = 0;
            dryAnew();
        }

        void become(Piece other) {
            row = other.row;
            column = other.column;
            rows = other.rows;
            columns = other.columns;
            placesWeight = other.placesWeight;
            rind = other.rind;
            state = other.state;
            wrapping = other.wrapping;
            off = other.off;
            driedAbove = other.driedAbove;
            driedBelow = other.driedBelow;
            driedLeft = other.driedLeft;
            driedRight = other.driedRight;
        }

        int block() {
            return 1000 * row + 100 * column + 10 * rows + columns;
        }

        int edgesAbove() {
            return row > 0 ? columns : 0;
        }

        int edgesBelow(Form form) {
            return row + rows < form.rows ? columns : 0;
        }

        int edgesLeft() {
            return column > 0 ? rows : 0;
        }

        int edgesRight(Form form) {
            return column + columns < form.columns ? rows : 0;
        }

        int bareEdges(Form form) {
            return edgesAbove() + edgesBelow(form) + edgesLeft() + edgesRight(form);
        }

        boolean isEnd(Form form) {
            int rims = (edgesAbove() == 0 ? 1 : 0) + (edgesBelow(form) == 0 ? 1 : 0)
                + (edgesLeft() == 0 ? 1 : 0) + (edgesRight(form) == 0 ? 1 : 0);
            return rims >= 3;
        }

        int dried() {
            return driedAbove + driedBelow + driedLeft + driedRight;
        }

        int weight() {
            return Math.max(0, placesWeight - dried() / DRIED_FOR_ONE - off);
        }

        void dry(Form form, int halfHours) {
            int each = wrapping >= 0 && wrapping < DRYING.length ? DRYING[wrapping] * halfHours : 0;
            driedAbove += each * edgesAbove();
            driedBelow += each * edgesBelow(form);
            driedLeft += each * edgesLeft();
            driedRight += each * edgesRight(form);
        }

        void dryAnew() {
            driedAbove = 0;
            driedBelow = 0;
            driedLeft = 0;
            driedRight = 0;
        }

        void shave(Form form) {
            off += dried() / DRIED_FOR_ONE + bareEdges(form);
            dryAnew();
        }

        /** Cuts are numbered in the order in which like ones are told: across by x, then along by x. */
        int cuts() {
            return rows - 1 + columns - 1;
        }

        boolean isAcross(int cut) {
            return cut < rows - 1;
        }

        int cutAt(int cut) {
            return isAcross(cut) ? cut + 1 : cut + 1 - (rows - 1);
        }

        int cutEdges(int cut) {
            return isAcross(cut) ? columns : rows;
        }

        /** Both parts must be other objects than this one. */
        void part(Form form, boolean across, int x, Piece ahead, Piece behind) {
            ahead.become(this);
            behind.become(this);
            if (across) {
                ahead.rows = x;
                behind.row = row + x;
                behind.rows = rows - x;
                ahead.driedBelow = 0;
                behind.driedAbove = 0;
                ahead.driedLeft = share(driedLeft, x, rows);
                ahead.driedRight = share(driedRight, x, rows);
                behind.driedLeft = driedLeft - ahead.driedLeft;
                behind.driedRight = driedRight - ahead.driedRight;
            } else {
                ahead.columns = x;
                behind.column = column + x;
                behind.columns = columns - x;
                ahead.driedRight = 0;
                behind.driedLeft = 0;
                ahead.driedAbove = share(driedAbove, x, columns);
                ahead.driedBelow = share(driedBelow, x, columns);
                behind.driedAbove = driedAbove - ahead.driedAbove;
                behind.driedBelow = driedBelow - ahead.driedBelow;
            }
            ahead.placesWeight = form.weightIn(row, column, ahead.rows, ahead.columns);
            behind.placesWeight = placesWeight - ahead.placesWeight;
            ahead.rind = form.rindIn(row, column, ahead.rows, ahead.columns);
            behind.rind = rind - ahead.rind;
            ahead.off = share(off, ahead.placesWeight, placesWeight);
            behind.off = off - ahead.off;
        }

        static int share(int amount, int part, int all) {
            return all > 0 ? amount * part / all : 0;
        }

        int pastePlaces(Form form) {
            int paste = 0;
            for (int r = row; r < row + rows; r++) {
                for (int c = column; c < column + columns; c++) {
                    paste += form.kindAt(r, c) == PASTE ? 1 : 0;
                }
            }
            return paste;
        }

        int ripePlaces(Form form, int day) {
            int ripe = 0;
            for (int r = row; r < row + rows; r++) {
                for (int c = column; c < column + columns; c++) {
                    ripe += form.isRipe(r, c, day) ? 1 : 0;
                }
            }
            return ripe;
        }
    }

    /** All pieces at one time: those that are there now, or those that a slot keeps. */
    private static final class Board {
        final Form form;
        final Piece[] pieces = new Piece[MOST_PIECES];
        final Piece spare = new Piece();
        int size;
        int halfHours;
        boolean filled; // of a slot: whether something was kept in it

        Board(Form form) {
            this.form = form;
            for (int number = 0; number < MOST_PIECES; number++) {
                pieces[number] = new Piece();
            }
            startAnew();
        }

        void startAnew() {
            pieces[0].becomeAll(form);
            size = 1;
            halfHours = 0;
        }

        void become(Board other) {
            size = other.size;
            halfHours = other.halfHours;
            for (int number = 0; number < size; number++) {
                pieces[number].become(other.pieces[number]);
            }
        }

        boolean knows(int number) {
            return number >= 0 && number < size;
        }

        boolean stillHas(int number) {
            return knows(number) && pieces[number].state == STANDING;
        }

        int standing() {
            int sum = 0;
            for (int number = 0; number < size; number++) {
                sum += pieces[number].state == STANDING ? 1 : 0;
            }
            return sum;
        }

        /** The new piece's number; FULL if there can be no more. */
        int divide(int number, boolean across, int x) {
            if (size >= MOST_PIECES) {
                return FULL;
            }
            pieces[number].part(form, across, x, spare, pieces[size]);
            pieces[number].become(spare);
            size++;
            return size - 1;
        }

        void goBy(int passing) {
            halfHours += passing;
            for (int number = 0; number < size; number++) {
                if (pieces[number].state == STANDING) {
                    pieces[number].dry(form, passing);
                }
            }
        }

        int ripestPiece(int day) {
            int best = NONE;
            int bestRipe = 0;
            int bestPaste = 1;
            for (int number = 0; number < size; number++) {
                if (pieces[number].state == STANDING) {
                    int ripe = pieces[number].ripePlaces(form, day);
                    int paste = Math.max(1, pieces[number].pastePlaces(form));
                    if (best == NONE || ripe * bestPaste > bestRipe * paste) {
                        best = number;
                        bestRipe = ripe;
                        bestPaste = paste;
                    }
                }
            }
            return best;
        }
    }

    /** What somebody wants: a weight, how much over at most, how many places of rind at most. */
    private static final class Ask {
        final int weight;
        final int most;
        final int rind;

        Ask(int weight, int over, int rind) {
            this.weight = weight;
            this.most = weight + over;
            this.rind = rind;
        }

        boolean fits(int itsWeight, int itsRind) {
            return itsWeight >= weight && itsWeight <= most && itsRind <= rind;
        }

        boolean isServedBy(Piece piece) {
            return piece.state == STANDING && fits(piece.weight(), piece.rind);
        }
    }

    /** Who asks is served here. Parts of cuts that are only thought of lie in pieces of its own. */
    private static final class Shop {
        final Form form;
        final Board board;
        final Piece ahead = new Piece();
        final Piece behind = new Piece();
        final Piece laterAhead = new Piece();
        final Piece laterBehind = new Piece();
        final int[] laterWires = new int[MOST_PIECES];
        int twoWire;
        int twoWay;

        Shop(Form form, Board board) {
            this.form = form;
            this.board = board;
        }

        int lightestPiece(Ask ask) {
            int best = NONE;
            int least = 0;
            for (int number = 0; number < board.size; number++) {
                Piece piece = board.pieces[number];
                int weight = piece.weight();
                if (ask.isServedBy(piece) && (best == NONE || weight < least)) {
                    best = number;
                    least = weight;
                }
            }
            return best;
        }

        int shortestCut(Ask ask) {
            int best = NONE;
            int shortest = NEVER;
            for (int number = 0; number < board.size && board.size < MOST_PIECES; number++) {
                Piece piece = board.pieces[number];
                for (int cut = 0; cut < piece.cuts(); cut++) {
                    if (piece.cutEdges(cut) < shortest) {
                        piece.part(form, piece.isAcross(cut), piece.cutAt(cut), ahead, behind);
                        boolean byAhead = ask.isServedBy(ahead);
                        if (byAhead || ask.isServedBy(behind)) {
                            best = told(number, cut, !byAhead);
                            shortest = piece.cutEdges(cut);
                        }
                    }
                }
            }
            return best;
        }

        int told(int number, int cut, boolean isBehind) {
            Piece piece = board.pieces[number];
            return 1000 * number + (piece.isAcross(cut) ? 0 : 100) + 10 * piece.cutAt(cut) + (isBehind ? 1 : 0);
        }

        /** Does a cut that told() tells; which piece the part is then that it was made for. */
        int cutOff(int told) {
            int number = told / 1000;
            if (told < 0 || !board.stillHas(number)) {
                return NONE;
            }
            int behindNumber = board.divide(number, told / 100 % 10 == 0, told / 10 % 10);
            return told % 10 == 1 ? behindNumber : number;
        }

        void lookTwoAhead(Ask one, Ask later) {
            twoWire = NEVER;
            twoWay = NONE;
            boolean mayCut = board.size < MOST_PIECES;
            for (int number = 0; number < board.size; number++) {
                laterWires[number] = laterWire(board.pieces[number], later, mayCut);
            }
            for (int number = 0; number < board.size; number++) {
                if (one.isServedBy(board.pieces[number])) {
                    weighWay(number, laterWireElsewhere(number, mayCut));
                }
            }
            for (int number = 0; number < board.size && mayCut; number++) {
                tryCuts(number, one, later);
            }
        }

        void tryCuts(int number, Ask one, Ask later) {
            Piece piece = board.pieces[number];
            boolean mayCutAgain = board.size + 1 < MOST_PIECES;
            int elsewhere = laterWireElsewhere(number, mayCutAgain);
            for (int cut = 0; cut < piece.cuts(); cut++) {
                int edges = piece.cutEdges(cut);
                piece.part(form, piece.isAcross(cut), piece.cutAt(cut), ahead, behind);
                if (one.isServedBy(ahead)) {
                    int rest = laterWire(behind, later, mayCutAgain);
                    weighWay(CUT_FIRST + told(number, cut, false), edges + Math.min(elsewhere, rest));
                }
                if (one.isServedBy(behind)) {
                    int rest = laterWire(ahead, later, mayCutAgain);
                    weighWay(CUT_FIRST + told(number, cut, true), edges + Math.min(elsewhere, rest));
                }
            }
        }

        /** Ways come in the order in which like ones are told, so only a shorter one is better. */
        void weighWay(int way, int wire) {
            if (wire < twoWire) {
                twoWire = wire;
                twoWay = way;
            }
        }

        /** How much wire it takes to serve by this piece or by a part of it. */
        int laterWire(Piece piece, Ask ask, boolean mayCut) {
            if (ask.isServedBy(piece)) {
                return 0;
            }
            int shortest = NEVER;
            for (int cut = 0; cut < piece.cuts() && mayCut; cut++) {
                if (piece.cutEdges(cut) < shortest) {
                    piece.part(form, piece.isAcross(cut), piece.cutAt(cut), laterAhead, laterBehind);
                    if (ask.isServedBy(laterAhead) || ask.isServedBy(laterBehind)) {
                        shortest = piece.cutEdges(cut);
                    }
                }
            }
            return shortest;
        }

        int laterWireElsewhere(int but, boolean mayCut) {
            int shortest = NEVER;
            for (int number = 0; number < board.size; number++) {
                int wire = laterWires[number];
                if (number != but && (mayCut || wire == 0)) {
                    shortest = Math.min(shortest, wire);
                }
            }
            return shortest;
        }
    }

    /**
     * The cheapest way to cut the whole form, worked out from small blocks to large ones. A wish is
     * a set of asks (as bits) that a block and what is cut of it must serve; plans without asks
     * know the empty wish alone.
     */
    private abstract static class Plan {
        private static final int STRETCHES = LONGEST * (LONGEST + 1) / 2;

        final Form form;
        final int wishes;
        final int[] costs;

        Plan(Form form, int wishes) {
            this.form = form;
            this.wishes = Math.max(1, wishes);
            this.costs = new int[STRETCHES * STRETCHES * this.wishes];
        }

        /** 0: the block is as wished; MUST_CUT: not as it is; NEVER: nor by any cut. */
        abstract int verdict(int row, int column, int rows, int columns, int wish);

        abstract int cutPrice(int edges);

        void workOut(int upToWish) {
            for (int rows = 1; rows <= form.rows; rows++) {
                for (int columns = 1; columns <= form.columns; columns++) {
                    for (int row = 0; row <= form.rows - rows; row++) {
                        for (int column = 0; column <= form.columns - columns; column++) {
                            settle(row, column, rows, columns, Math.min(upToWish, wishes - 1));
                        }
                    }
                }
            }
        }

        void settle(int row, int column, int rows, int columns, int upToWish) {
            int spot = spotOf(row, column, rows, columns);
            for (int wish = 0; wish <= upToWish; wish++) {
                int cost = verdict(row, column, rows, columns, wish);
                costs[spot + wish] = cost == MUST_CUT ? leastCut(row, column, rows, columns, wish) : cost;
            }
        }

        int leastCut(int row, int column, int rows, int columns, int wish) {
            int least = NEVER;
            for (int x = 1; x < rows; x++) {
                least = Math.min(least, cutCost(row, column, rows, columns, true, x, wish));
            }
            for (int x = 1; x < columns; x++) {
                least = Math.min(least, cutCost(row, column, rows, columns, false, x, wish));
            }
            return least;
        }

        int cutCost(int row, int column, int rows, int columns, boolean across, int x, int wish) {
            if (across) {
                int ahead = spotOf(row, column, x, columns);
                int behind = spotOf(row + x, column, rows - x, columns);
                return cutPrice(columns) + bothCost(ahead, behind, wish);
            }
            int ahead = spotOf(row, column, rows, x);
            int behind = spotOf(row, column + x, rows, columns - x);
            return cutPrice(rows) + bothCost(ahead, behind, wish);
        }

        /** Every share of the wish may fall to the part ahead, the rest of it to the one behind. */
        int bothCost(int ahead, int behind, int wish) {
            int least = NEVER;
            for (int share = wish; share >= 0; share--) {
                share &= wish;
                int cost = costs[ahead + share] + costs[behind + (wish ^ share)];
                if (cost < least) {
                    least = cost;
                }
            }
            return least;
        }

        int costOfAll(int wish) {
            return costs[spotOf(0, 0, form.rows, form.columns) + wish];
        }

        /** Stretches of a side are numbered: all that start at 0 by their length, then at 1, and so on. */
        int spotOf(int row, int column, int rows, int columns) {
            int down = row * (2 * LONGEST + 1 - row) / 2 + rows - 1;
            int aside = column * (2 * LONGEST + 1 - column) / 2 + columns - 1;
            return (down * STRETCHES + aside) * wishes;
        }
    }

    /** The asks of the order, and the shortest wire for all of them. */
    private static final class OrderPlan extends Plan {
        final Ask[] asks = new Ask[MOST_ASKS];
        final int[] leastWeights = new int[1 << MOST_ASKS];
        int size;
        boolean workedOut;

        OrderPlan(Form form) {
            super(form, 1 << MOST_ASKS);
        }

        void enter(Ask ask) {
            if (size < MOST_ASKS) {
                asks[size] = ask;
                size++;
                workedOut = false;
            }
        }

        void empty() {
            size = 0;
            workedOut = false;
        }

        int everyAsk() {
            return (1 << size) - 1;
        }

        int shortest() {
            if (!workedOut) {
                addUpWishes();
                workOut(everyAsk());
                workedOut = true;
            }
            return costOfAll(everyAsk());
        }

        void addUpWishes() {
            for (int wish = 0; wish <= everyAsk(); wish++) {
                int sum = 0;
                for (int i = 0; i < size; i++) {
                    sum += (wish >> i & 1) == 1 ? asks[i].weight : 0;
                }
                leastWeights[wish] = sum;
            }
        }

        /** Of a way that takes this much wire; shortest() must have been called for it. */
        int firstCut(int wire) {
            if (wire == 0 || wire >= NEVER) {
                return NONE;
            }
            for (int x = 1; x < form.rows; x++) {
                if (cutCost(0, 0, form.rows, form.columns, true, x, everyAsk()) == wire) {
                    return x;
                }
            }
            for (int x = 1; x < form.columns; x++) {
                if (cutCost(0, 0, form.rows, form.columns, false, x, everyAsk()) == wire) {
                    return 100 + x;
                }
            }
            return NONE;
        }

        int verdict(int row, int column, int rows, int columns, int wish) {
            if (wish == 0) {
                return 0;
            }
            int weight = form.weightIn(row, column, rows, columns);
            if (weight < leastWeights[wish]) {
                return NEVER;
            }
            for (int i = 0; i < size; i++) {
                if (wish == 1 << i && asks[i].fits(weight, form.rindIn(row, column, rows, columns))) {
                    return 0;
                }
            }
            return MUST_CUT;
        }

        int cutPrice(int edges) {
            return edges;
        }
    }

    /** The form cut into blocks that are all alike in weight and rind. */
    private static final class FairPlan extends Plan {
        int weightEach = 1;
        int rindEach;

        FairPlan(Form form) {
            super(form, 1);
        }

        int shortest(int n) {
            int weight = form.weightIn(0, 0, form.rows, form.columns);
            int rind = form.rindIn(0, 0, form.rows, form.columns);
            if (n < 1 || weight == 0 || weight % n != 0 || rind % n != 0) {
                return NEVER;
            }
            weightEach = weight / n;
            rindEach = rind / n;
            workOut(0);
            return costOfAll(0);
        }

        int verdict(int row, int column, int rows, int columns, int wish) {
            int weight = form.weightIn(row, column, rows, columns);
            if (weight == 0 || weightEach < 1 || weight % weightEach != 0) {
                return NEVER;
            }
            int shares = weight / weightEach;
            if (form.rindIn(row, column, rows, columns) != shares * rindEach) {
                return NEVER;
            }
            return shares == 1 ? 0 : MUST_CUT;
        }

        int cutPrice(int edges) {
            return edges;
        }
    }

    /** The blocks that are left, and how few cuts make each of them a block of its own. */
    private static final class LeftPlan extends Plan {
        final int[] tops = new int[MOST_LEFT];
        final int[] bottoms = new int[MOST_LEFT];
        final int[] lefts = new int[MOST_LEFT];
        final int[] rights = new int[MOST_LEFT];
        int size;
        boolean workedOut;

        LeftPlan(Form form) {
            super(form, 1);
        }

        void enter(int row, int column, int rows, int columns) {
            if (size < MOST_LEFT) {
                tops[size] = row;
                bottoms[size] = row + rows;
                lefts[size] = column;
                rights[size] = column + columns;
                size++;
                workedOut = false;
            }
        }

        void empty() {
            size = 0;
            workedOut = false;
        }

        boolean touches(int row, int column, int rows, int columns) {
            for (int i = 0; i < size; i++) {
                if (!isApart(i, row, column, row + rows, column + columns)) {
                    return true;
                }
            }
            return false;
        }

        boolean isApart(int i, int top, int left, int bottom, int right) {
            return tops[i] >= bottom || bottoms[i] <= top || lefts[i] >= right || rights[i] <= left;
        }

        int fewest() {
            if (!workedOut) {
                workOut(0);
                workedOut = true;
            }
            return costOfAll(0);
        }

        int verdict(int row, int column, int rows, int columns, int wish) {
            int bottom = row + rows;
            int right = column + columns;
            int verdict = 0;
            for (int i = 0; i < size; i++) {
                if (!isApart(i, row, column, bottom, right)) {
                    if (tops[i] < row || bottoms[i] > bottom || lefts[i] < column || rights[i] > right) {
                        return NEVER; // a cut went through it
                    }
                    if (tops[i] > row || bottoms[i] < bottom || lefts[i] > column || rights[i] < right) {
                        verdict = MUST_CUT;
                    }
                }
            }
            return verdict;
        }

        int cutPrice(int edges) {
            return 1;
        }
    }

    /** What is learnt from who took how much over, and from who bought after how many tastes. */
    private static final class Books {
        private static final int LOSS = 12;
        private static final int GAIN = 20;

        final int[] limits = new int[MOST_OVERS];
        final int[] times = new int[MOST_TASTES + 1];
        final int[] bought = new int[MOST_TASTES + 1];
        int overs;

        void enter(int limit) {
            if (overs < MOST_OVERS) {
                limits[overs] = limit;
                overs++;
            }
        }

        int earnings(int over) {
            int sum = 0;
            for (int i = 0; i < overs; i++) {
                sum += over <= limits[i] ? over : -LOSS;
            }
            return sum;
        }

        int dearestOver() {
            int best = 0;
            int most = earnings(0);
            for (int over = 1; over <= MOST_OVER; over++) {
                int earned = earnings(over);
                if (earned > most) {
                    best = over;
                    most = earned;
                }
            }
            return best;
        }

        void enterTaste(int tastes, boolean buys) {
            times[tastes]++;
            bought[tastes] += buys ? 1 : 0;
        }

        long gainAbove(int tastes) {
            return GAIN * (bought[tastes] + 1L) - tastes * gainBelow(tastes);
        }

        long gainBelow(int tastes) {
            return times[tastes] + 2L;
        }

        int dearestTastes() {
            int best = 0;
            for (int tastes = 1; tastes <= MOST_TASTES; tastes++) {
                if (gainAbove(tastes) * gainBelow(best) > gainAbove(best) * gainBelow(tastes)) {
                    best = tastes;
                }
            }
            return best;
        }
    }
}
