import java.util.Arrays;

/**
 * Sheets of paper that are folded to a wedge, snipped by a recipe and opened again.
 *
 * <p>Cells and places are numbered 16 y + x. Rows of cells or places are held as the bits of an
 * int, the lowest bit being x 0. All arrays are made once, with the object, and used again.
 */
public final class PaperStars {
    public static final int NONE = -1;

    private static final int SIDE = 16;
    private static final int CELLS = 256;
    private static final int MOST_FOLDS = 8;
    private static final int MOST_HALVINGS = 4;
    private static final int MOST_TEXT = 160;
    private static final int MOST_TAPE = 200;
    private static final int MOST_SNIPS = 12;

    private final Table now = new Table();
    private final Table kept = new Table();
    private final Tape tape = new Tape();
    private final Reader reader = new Reader();
    private final Folding folding = new Folding();
    private final Folding leaning = new Folding();
    private final Paper paper = new Paper();
    private final Pieces pieces = new Pieces();
    private final Hanging hanging = new Hanging();
    private final Fit fit = new Fit();
    private final Cover cover = new Cover();
    private final Packing packing = new Packing();
    private boolean wasKept = false;
    private boolean hangKnown = false;
    private int hangAnswer = 0;

    public PaperStars() {
        reopen();
    }

    public boolean sheet(int size) {
        if (size < 2 || size > SIDE || (size & 1) != 0) {
            return false;
        }
        now.begin(size);
        reopen();
        return true;
    }

    public int feed(int a, int b, int c, int d, int e) {
        if (tape.length + 20 > MOST_TAPE) {
            return NONE;
        }
        tape.putInt(a);
        tape.putInt(b);
        tape.putInt(c);
        tape.putInt(d);
        tape.putInt(e);
        return tape.length;
    }

    public int recipe(int n) {
        if (n < 1 || n > MOST_TEXT || n > tape.length) {
            return NONE;
        }
        int answer = reader.read(tape, n, now.size);
        tape.length = 0;
        if (answer > 0) {
            reader.handTo(now);
            reopen();
        }
        return answer;
    }

    public int wedge(int what) {
        switch (what) {
            case 0:
                return folding.w;
            case 1:
                return folding.h;
            case 2:
                return folding.places();
            case 3:
                return bitsOf(now.cut);
            case 4:
                return now.foldCount;
            case 5:
                return folding.diagonal ? 1 : 0;
            default:
                return NONE;
        }
    }

    public int layers(int x, int y) {
        return folding.holds(x, y) ? folding.thickness(x, y) : NONE;
    }

    public int snipped(int x, int y) {
        if (!folding.holds(x, y)) {
            return NONE;
        }
        return hasBit(now.cut, cellAt(x, y)) ? 1 : 0;
    }

    public int opened(int x, int y) {
        if (!isCell(x, y)) {
            return NONE;
        }
        return hasBit(paper.rows, cellAt(x, y)) ? 1 : 0;
    }

    public int sums(int what) {
        if (what < 0 || what > 6) {
            return NONE;
        }
        walkPieces();
        switch (what) {
            case 0:
                return bitsOf(paper.rows);
            case 1:
                return pieces.found;
            case 2:
                return pieces.mainCells();
            case 3:
                return bitsOf(paper.rows) - pieces.mainCells();
            case 4:
                return paper.holes();
            case 5:
                return paper.sides();
            default:
                return bitsOf(pieces.threads);
        }
    }

    public int piece(int x, int y, int what) {
        if (!isCell(x, y) || what < 0 || what > 3) {
            return NONE;
        }
        int cell = cellAt(x, y);
        if (!hasBit(paper.rows, cell)) {
            return -2;
        }
        walkPieces();
        int lowest = pieces.lowest[cell];
        switch (what) {
            case 0:
                return lowest;
            case 1:
                return lowest >= 0 && lowest < CELLS ? pieces.cellsFrom[lowest] : 0;
            case 2:
                return hasBit(pieces.threads, cell) ? 1 : 0;
            default:
                return lowest == pieces.main ? 0 : 1;
        }
    }

    public boolean deer(int x, int y, boolean is) {
        if (!isCell(x, y) || hasBit(now.deerRows, cellAt(x, y)) == is) {
            return false;
        }
        now.deerRows[y] ^= 1 << x;
        hangKnown = false;
        return true;
    }

    public int hang() {
        if (!hangKnown) {
            hangAnswer = reckonHang();
            hangKnown = true;
        }
        return hangAnswer;
    }

    public boolean want(int y, int row) {
        if (y < 0 || y >= now.size || row < 0 || row >= 1 << now.size) {
            return false;
        }
        now.wanted[y] = row;
        return true;
    }

    public int wantOpened() {
        System.arraycopy(paper.rows, 0, now.wanted, 0, SIDE);
        return bitsOf(paper.rows);
    }

    public int differs(int what) {
        if (what < 0 || what > 1) {
            return NONE;
        }
        int unlike = 0;
        int first = NONE;
        for (int y = SIDE - 1; y >= 0; y--) {
            int row = paper.rows[y] ^ now.wanted[y];
            unlike += Integer.bitCount(row);
            if (row != 0) {
                first = cellAt(Integer.numberOfTrailingZeros(row), y);
            }
        }
        return what == 0 ? unlike : first;
    }

    public int fits(int a, int b, int d) {
        if (!fit.fold(now.size, a, b, d)) {
            return NONE;
        }
        return fit.match(now.wanted) ? 1 : -10 - fit.unlike;
    }

    public int bestFold(int what) {
        if (what < 0 || what > 4) {
            return NONE;
        }
        int best = 0;
        int places = CELLS + 1;
        int bare = 0;
        for (int code = 0; code < Fit.CODES; code++) {
            if (fit.foldByCode(now.size, code) && fit.folding.places() < places
                    && fit.match(now.wanted)) {
                best = code;
                places = fit.folding.places();
                bare = fit.bareCount;
            }
        }
        switch (what) {
            case 0:
                return Fit.aOf(best);
            case 1:
                return Fit.bOf(best);
            case 2:
                return Fit.dOf(best);
            case 3:
                return places;
            default:
                return bare;
        }
    }

    public int snips(int a, int b, int d) {
        if (!fit.fold(now.size, a, b, d)) {
            return NONE;
        }
        if (fit.folding.places() > Cover.MOST_PLACES) {
            return -4;
        }
        return fit.match(now.wanted) ? cover.fewest(fit) : -3;
    }

    public int straight(int a, int b, int d, int what) {
        if (what < 0 || what > 2 || !fit.fold(now.size, a, b, d) || !fit.match(now.wanted)
                || fit.bareCount == 0 || fit.bareCount == fit.folding.places()) {
            return -1000;
        }
        for (int p = -3; p <= 3; p++) {
            for (int q = -3; q <= 3; q++) {
                int c = fit.lineAbove(p, q);
                if (c != Fit.NO_LINE) {
                    return what == 0 ? p : what == 1 ? q : c;
                }
            }
        }
        return -1000;
    }

    public int scraps(int places, int what) {
        if (places < 0 || places > CELLS || what < NONE) {
            return -3;
        }
        int found = 0;
        for (int code = 0; code < Fit.CODES; code++) {
            if (fit.foldByCode(now.size, code) && fit.match(now.wanted)
                    && fit.bareCount == places) {
                if (found == what) {
                    return 100 * Fit.aOf(code) + 10 * Fit.bOf(code) + Fit.dOf(code);
                }
                found++;
            }
        }
        return what == NONE ? found : -2;
    }

    public long alike(int n, int k) {
        if (n < 1 || n > 7 || k < 0 || k > n * n) {
            return -1;
        }
        int cells = n * n;
        int middle = n & 1;
        int onAxis = middle == 1 ? n : 0;
        long unturned = choose(cells, k);
        long quarter = unmoved(middle, 4, k, cells);
        long half = unmoved(middle, 2, k, cells);
        long upright = unmoved(onAxis, 2, k, cells);
        long slanted = unmoved(n, 2, k, cells);
        return (unturned + 2 * quarter + half + 2 * upright + 2 * slanted) / 8;
    }

    public int strips(int length, int n, int what) {
        if (length < 1 || length > 255 || n < 1 || n > Packing.MOST_ORDERS || what < 0
                || what > 1 || n > tape.length) {
            return NONE;
        }
        int answer = packing.pack(tape, n, length);
        tape.length = 0;
        if (answer < 0) {
            return -2;
        }
        return what == 0 ? answer : answer * length - packing.together;
    }

    public int slipped(int slips, int x, int y) {
        if (!areSlips(slips) || !isCell(x, y)) {
            return NONE;
        }
        refold(leaning, slips);
        return isCut(leaning, x, y) ? 0 : 1;
    }

    public int spoilt(int slips) {
        if (!areSlips(slips)) {
            return NONE;
        }
        refold(leaning, slips);
        int unlike = 0;
        for (int y = 0; y < now.size; y++) {
            for (int x = 0; x < now.size; x++) {
                if (isCut(leaning, x, y) == hasBit(paper.rows, cellAt(x, y))) {
                    unlike++;
                }
            }
        }
        return unlike;
    }

    public long odds(int tenths, int k, int what) {
        if (tenths < 0 || tenths > 10 || k < 0 || k > MOST_FOLDS || what < 0 || what > 1) {
            return -1;
        }
        int rest = now.foldCount - k;
        long above = choose(now.foldCount, k) * power(tenths, k) * power(10 - tenths, rest);
        long below = power(10, now.foldCount);
        long divisor = commonDivisor(below, above);
        if (divisor < 1) {
            return -1;
        }
        return (what == 0 ? above : below) / divisor;
    }

    public boolean seed(int x) {
        if (x < 0 || x > 65535) {
            return false;
        }
        now.chance = x;
        return true;
    }

    public int draw(int tenths) {
        if (tenths < 0 || tenths > 10) {
            return NONE;
        }
        int slips = 0;
        for (int i = 0; i < now.foldCount; i++) {
            now.chance = (25173 * now.chance + 13849) & 65535;
            if (now.chance % 10 < tenths) {
                slips |= 1 << i;
            }
        }
        return slips;
    }

    public int keep() {
        kept.copyFrom(now);
        wasKept = true;
        return bitsOf(paper.rows);
    }

    public boolean undo() {
        if (!wasKept) {
            return false;
        }
        now.copyFrom(kept);
        reopen();
        return true;
    }

    public int check(int y, int n) {
        if (y < 0 || y >= now.size || n < 0 || n > SIDE || 4 * n > tape.length) {
            return -2;
        }
        int wrong = NONE;
        for (int x = 0; x < n && wrong == NONE; x++) {
            int due = hasBit(paper.rows, cellAt(x, y)) ? 1 : 0;
            if (x >= now.size || tape.intAt(4 * x) != due) {
                wrong = x;
            }
        }
        tape.length = 0;
        return wrong;
    }

    public int count(int what) {
        if (what >= 20 && what < 20 + now.size) {
            return now.wanted[what - 20];
        }
        switch (what) {
            case 0:
                return now.size;
            case 1:
                return now.snipCount;
            case 2:
                return now.foldCount;
            case 3:
                return tape.length;
            case 4:
                return now.chance;
            case 5:
                return bitsOf(now.deerRows);
            case 6:
                return bitsOf(now.wanted);
            default:
                return NONE;
        }
    }

    /** Folds and opens anew, and forgets what was reckoned of the paper before. */
    private void reopen() {
        refold(folding, 0);
        paper.size = now.size;
        for (int y = 0; y < SIDE; y++) {
            int row = 0;
            for (int x = 0; x < now.size && y < now.size; x++) {
                if (!isCut(folding, x, y)) {
                    row |= 1 << x;
                }
            }
            paper.rows[y] = row;
        }
        pieces.walked = false;
        hangKnown = false;
    }

    private void refold(Folding into, int slips) {
        into.start(now.size);
        for (int i = 0; i < now.foldCount && i < MOST_FOLDS; i++) {
            into.fold(now.letters[i], (slips >> i) & 1);
        }
    }

    private boolean isCut(Folding by, int x, int y) {
        int place = by.placeOf(x, y);
        return place >= 0 && hasBit(now.cut, place);
    }

    private void walkPieces() {
        if (!pieces.walked) {
            pieces.walk(paper);
        }
    }

    private int reckonHang() {
        walkPieces();
        if (pieces.found < 2) {
            return 0;
        }
        if (pieces.found > Hanging.MOST_PIECES) {
            return -3;
        }
        return hanging.fewest(paper, pieces, now.deerRows);
    }

    private boolean isCell(int x, int y) {
        return x >= 0 && x < now.size && y >= 0 && y < now.size;
    }

    private boolean areSlips(int slips) {
        return slips >= 0 && slips < 1 << now.foldCount;
    }

    private static int cellAt(int x, int y) {
        return SIDE * y + x;
    }

    /** Whether the rows have a bit at a cell or place; never beyond them. */
    private static boolean hasBit(int[] rows, int cell) {
        return cell >= 0 && cell < CELLS && ((rows[cell >> 4] >> (cell & 15)) & 1) == 1;
    }

    private static int bitsOf(int[] rows) {
        int bits = 0;
        for (int y = 0; y < SIDE; y++) {
            bits += Integer.bitCount(rows[y]);
        }
        return bits;
    }

    /** The cell on one of the four sides of a cell; NONE beyond the sheet. */
    private static int cellBeside(int cell, int side, int size) {
        int x = cell & 15;
        int y = cell >> 4;
        if (side < 2) {
            x += side == 0 ? 1 : -1;
        } else {
            y += side == 2 ? 1 : -1;
        }
        return x >= 0 && x < size && y >= 0 && y < size ? cellAt(x, y) : NONE;
    }

    private static long choose(int n, int k) {
        if (k < 0 || k > n) {
            return 0;
        }
        long ways = 1;
        for (int i = 1; i <= k; i++) {
            ways = ways * (n - k + i) / i;
        }
        return ways;
    }

    /** Patterns of k cells that a turn leaves as they are: it moves all but some in rings. */
    private static long unmoved(int fixed, int ring, int k, int cells) {
        if (ring < 1) {
            return 0;
        }
        long ways = 0;
        for (int alone = 0; alone <= fixed && alone <= k; alone++) {
            if ((k - alone) % ring == 0) {
                ways += choose(fixed, alone) * choose((cells - fixed) / ring, (k - alone) / ring);
            }
        }
        return ways;
    }

    private static long power(int base, int times) {
        long value = 1;
        for (int i = 0; i < times; i++) {
            value *= base;
        }
        return value;
    }

    private static long commonDivisor(long a, long b) {
        long more = a;
        long less = b;
        for (int i = 0; i < 100 && less != 0; i++) {
            long rest = more % less;
            more = less;
            less = rest;
        }
        return more;
    }

    /** What is kept and undone. */
    private static final class Table {
        int size;
        int chance = 1;
        int snipCount;
        int foldCount;
        final int[] letters = new int[MOST_FOLDS];
        final int[] cut = new int[SIDE];
        final int[] wanted = new int[SIDE];
        final int[] deerRows = new int[SIDE];

        Table() {
            begin(SIDE);
        }

        void begin(int newSize) {
            size = newSize;
            snipCount = 0;
            foldCount = 0;
            for (int y = 0; y < SIDE; y++) {
                cut[y] = 0;
                deerRows[y] = 0;
                wanted[y] = y < newSize ? (1 << newSize) - 1 : 0;
            }
        }

        void copyFrom(Table other) {
            size = other.size;
            chance = other.chance;
            snipCount = other.snipCount;
            foldCount = other.foldCount;
            System.arraycopy(other.letters, 0, letters, 0, MOST_FOLDS);
            System.arraycopy(other.cut, 0, cut, 0, SIDE);
            System.arraycopy(other.wanted, 0, wanted, 0, SIDE);
            System.arraycopy(other.deerRows, 0, deerRows, 0, SIDE);
        }
    }

    /** The tape, bytes as numbers from 0 to 255. */
    private static final class Tape {
        int length = 0;
        final int[] bytes = new int[MOST_TAPE];

        void putInt(int value) {
            for (int shift = 24; shift >= 0 && length < MOST_TAPE; shift -= 8) {
                bytes[length] = (value >> shift) & 255;
                length++;
            }
        }

        int intAt(int first) {
            int value = 0;
            for (int i = first; i < first + 4; i++) {
                value = (value << 8) | (i >= 0 && i < MOST_TAPE ? bytes[i] : 0);
            }
            return value;
        }
    }

    /** Folds one behind the other, and to which place each cell comes by them. */
    private static final class Folding {
        int size;
        int w;
        int h;
        boolean diagonal;
        private int diagonalSlip;
        private int thick;
        private final int[] toX = new int[SIDE];
        private final int[] toY = new int[SIDE];

        void start(int newSize) {
            size = newSize;
            w = newSize;
            h = newSize;
            diagonal = false;
            diagonalSlip = 0;
            thick = 1;
            for (int i = 0; i < SIDE; i++) {
                toX[i] = i;
                toY[i] = i;
            }
        }

        /** One fold more, with a slip of 0 or 1; false if it can't be. */
        boolean fold(int letter, int slip) {
            if (diagonal) {
                return false;
            }
            if (letter == 'h' && (w & 1) == 0) {
                turnOver(toX, w, slip);
                w >>= 1;
                thick *= 2;
                return true;
            }
            if (letter == 'v' && (h & 1) == 0) {
                turnOver(toY, h, slip);
                h >>= 1;
                thick *= 2;
                return true;
            }
            if (letter == 'd' && w == h && w >= 2) {
                diagonal = true;
                diagonalSlip = slip;
                return true;
            }
            return false;
        }

        /** What a fold brings beyond the wedge is NONE: no later fold brings that back. */
        private static void turnOver(int[] to, int length, int slip) {
            int half = length >> 1;
            for (int i = 0; i < SIDE; i++) {
                if (to[i] >= half) {
                    int over = length - 1 - to[i] + slip;
                    to[i] = over >= 0 && over < half ? over : NONE;
                }
            }
        }

        boolean holds(int x, int y) {
            return x >= 0 && x < w && y >= 0 && y < h && !(diagonal && y > x);
        }

        /** The place of a cell; NONE if one of the folds brought it beyond the wedge. */
        int placeOf(int cellX, int cellY) {
            if (cellX < 0 || cellX >= size || cellY < 0 || cellY >= size) {
                return NONE;
            }
            int x = toX[cellX];
            int y = toY[cellY];
            if (x < 0 || y < 0) {
                return NONE;
            }
            if (diagonal && y > x) {
                int over = x + diagonalSlip;
                x = y;
                y = over;
            }
            return holds(x, y) ? cellAt(x, y) : NONE;
        }

        int places() {
            return diagonal ? w * (w + 1) / 2 : w * h;
        }

        /** The layers of a place of folds without slips. */
        int thickness(int x, int y) {
            return diagonal && x != y ? 2 * thick : thick;
        }
    }

    /** The paper of the opened sheet, its holes and its edge. */
    private static final class Paper {
        int size;
        final int[] rows = new int[SIDE];
        private final int[] bare = new int[SIDE];
        private final int[] queue = new int[CELLS];

        int sides() {
            int found = 0;
            int above = 0;
            for (int y = 0; y < SIDE; y++) {
                found += Integer.bitCount(rows[y] ^ (rows[y] << 1));
                found += Integer.bitCount(rows[y] ^ above);
                above = rows[y];
            }
            return found + Integer.bitCount(above);
        }

        int holes() {
            for (int y = 0; y < SIDE; y++) {
                bare[y] = y < size ? ~rows[y] & ((1 << size) - 1) : 0;
            }
            int found = 0;
            for (int cell = 0; cell < CELLS; cell++) {
                if (hasBit(bare, cell) && !fillToBorder(cell)) {
                    found++;
                }
            }
            return found;
        }

        /** Takes all bare cells that hang together with one; whether one is at the border. */
        private boolean fillToBorder(int start) {
            boolean atBorder = false;
            int length = 1;
            queue[0] = start;
            bare[start >> 4] ^= 1 << (start & 15);
            for (int i = 0; i < length && i < CELLS; i++) {
                for (int side = 0; side < 4; side++) {
                    int other = cellBeside(queue[i], side, size);
                    if (other < 0) {
                        atBorder = true;
                    } else if (hasBit(bare, other) && length < CELLS) {
                        bare[other >> 4] ^= 1 << (other & 15);
                        queue[length] = other;
                        length++;
                    }
                }
            }
            return atBorder;
        }
    }

    /** The pieces of the opened sheet and their threads, found by one walk over each piece. */
    private static final class Pieces {
        boolean walked = false;
        int found;
        int main;
        final int[] lowest = new int[CELLS];
        final int[] cellsFrom = new int[CELLS];
        final int[] threads = new int[SIDE];
        private int clock;
        private final int[] met = new int[CELLS];
        private final int[] reach = new int[CELLS];
        private final int[] parent = new int[CELLS];
        private final int[] tried = new int[CELLS];

        int mainCells() {
            return main >= 0 && main < CELLS ? cellsFrom[main] : 0;
        }

        void walk(Paper paper) {
            walked = true;
            found = 0;
            main = NONE;
            clock = 0;
            Arrays.fill(met, 0);
            Arrays.fill(lowest, NONE);
            Arrays.fill(threads, 0);
            for (int cell = 0; cell < CELLS; cell++) {
                if (hasBit(paper.rows, cell) && met[cell] == 0) {
                    found++;
                    cellsFrom[cell] = 0;
                    walkFrom(cell, paper);
                    if (cellsFrom[cell] > mainCells()) {
                        main = cell;
                    }
                }
            }
        }

        /** Depth first; a cell has four sides to try and one way back. */
        private void walkFrom(int root, Paper paper) {
            int branches = 0;
            int cell = root;
            meet(root, NONE, root);
            for (int step = 0; step < 5 * CELLS && cell >= 0; step++) {
                int side = tried[cell];
                tried[cell] = side + 1;
                if (side < 4) {
                    cell = tryBeside(cell, cellBeside(cell, side, paper.size), root, paper);
                } else {
                    int back = parent[cell];
                    if (back == root) {
                        branches++;
                    } else if (back >= 0) {
                        settle(cell, back);
                    }
                    cell = back;
                }
            }
            if (branches > 1) {
                markThread(root);
            }
        }

        private void meet(int cell, int from, int root) {
            clock++;
            met[cell] = clock;
            reach[cell] = clock;
            parent[cell] = from;
            tried[cell] = 0;
            lowest[cell] = root;
            cellsFrom[root]++;
        }

        /** Where the walk goes on: at the other cell, if that is new. */
        private int tryBeside(int cell, int other, int root, Paper paper) {
            if (other < 0 || !hasBit(paper.rows, other)) {
                return cell;
            }
            if (met[other] == 0) {
                meet(other, cell, root);
                return other;
            }
            reach[cell] = Math.min(reach[cell], met[other]);
            return cell;
        }

        /** A cell whose branch reaches none that was met earlier holds that branch alone. */
        private void settle(int cell, int back) {
            reach[back] = Math.min(reach[back], reach[cell]);
            if (reach[cell] >= met[back]) {
                markThread(back);
            }
        }

        private void markThread(int cell) {
            threads[cell >> 4] |= 1 << (cell & 15);
        }
    }

    /** The fewest cells that join all pieces: cheapest trees over sets of pieces. */
    private static final class Hanging {
        static final int MOST_PIECES = 6;
        private static final int FAR = 1000000;
        private final int[] cost = new int[CELLS << (MOST_PIECES - 1)];
        private final int[] price = new int[CELLS];
        private final int[] ends = new int[MOST_PIECES];

        int fewest(Paper paper, Pieces pieces, int[] deerRows) {
            setPrices(paper, deerRows);
            int count = listEnds(pieces);
            if (count < 2) {
                return 0;
            }
            int last = count - 1;
            int all = (1 << last) - 1;
            for (int set = 1; set <= all; set++) {
                int base = set * CELLS;
                for (int cell = 0; cell < CELLS; cell++) {
                    cost[base + cell] = FAR;
                }
                if (Integer.bitCount(set) == 1) {
                    cost[base + ends[Integer.numberOfTrailingZeros(set)]] = 0;
                } else {
                    joinParts(set, paper.size);
                }
                spread(base, paper.size);
            }
            int least = cost[all * CELLS + ends[last]];
            return least < FAR ? least : -2;
        }

        private void setPrices(Paper paper, int[] deerRows) {
            for (int cell = 0; cell < CELLS; cell++) {
                if (hasBit(paper.rows, cell)) {
                    price[cell] = 0;
                } else {
                    price[cell] = hasBit(deerRows, cell) ? FAR : 1;
                }
            }
        }

        /** One cell of each piece: all others of it are reached for nothing. */
        private int listEnds(Pieces pieces) {
            int count = 0;
            for (int cell = 0; cell < CELLS && count < MOST_PIECES; cell++) {
                if (pieces.lowest[cell] == cell) {
                    ends[count] = cell;
                    count++;
                }
            }
            return count;
        }

        /** Two trees that meet at a cell; its price is in both. */
        private void joinParts(int set, int size) {
            int lowBit = set & -set;
            for (int part = 1; part < set; part++) {
                if ((part & set) == part && (part & lowBit) != 0) {
                    joinTwo(set * CELLS, part * CELLS, (set ^ part) * CELLS, size);
                }
            }
        }

        private void joinTwo(int base, int one, int other, int size) {
            for (int y = 0; y < size; y++) {
                for (int x = 0; x < size; x++) {
                    int cell = cellAt(x, y);
                    int both = cost[one + cell] + cost[other + cell] - price[cell];
                    if (both < cost[base + cell]) {
                        cost[base + cell] = both;
                    }
                }
            }
        }

        /** Sweeps forth and back till no cell can be reached for less. */
        private void spread(int base, int size) {
            boolean changed = true;
            for (int sweep = 0; sweep < CELLS && changed; sweep++) {
                changed = false;
                for (int y = 0; y < size; y++) {
                    for (int x = 0; x < size; x++) {
                        int at = base + cellAt(x, y);
                        int left = x > 0 ? cost[at - 1] : FAR;
                        int above = y > 0 ? cost[at - SIDE] : FAR;
                        changed |= lower(at, Math.min(left, above) + price[at - base]);
                    }
                }
                for (int y = size - 1; y >= 0; y--) {
                    for (int x = size - 1; x >= 0; x--) {
                        int at = base + cellAt(x, y);
                        int right = x < size - 1 ? cost[at + 1] : FAR;
                        int under = y < size - 1 ? cost[at + SIDE] : FAR;
                        changed |= lower(at, Math.min(right, under) + price[at - base]);
                    }
                }
            }
        }

        private boolean lower(int at, int to) {
            if (to >= cost[at]) {
                return false;
            }
            cost[at] = to;
            return true;
        }
    }

    /** Folds a, b, d tried on a wanted pattern. */
    private static final class Fit {
        static final int CODES = 2 * (MOST_HALVINGS + 1) * (MOST_HALVINGS + 1);
        static final int NO_LINE = -1000;
        final Folding folding = new Folding();
        final int[] bareRows = new int[SIDE];
        int bareCount;
        int unlike;
        private final int[] knownRows = new int[SIDE];

        static int aOf(int code) {
            return code / (2 * (MOST_HALVINGS + 1));
        }

        static int bOf(int code) {
            return code / 2 % (MOST_HALVINGS + 1);
        }

        static int dOf(int code) {
            return code & 1;
        }

        /** Codes go by a, then b, then d. */
        boolean foldByCode(int size, int code) {
            return fold(size, aOf(code), bOf(code), dOf(code));
        }

        boolean fold(int size, int a, int b, int d) {
            if (a < 0 || a > MOST_HALVINGS || b < 0 || b > MOST_HALVINGS || d < 0 || d > 1) {
                return false;
            }
            folding.start(size);
            boolean can = true;
            for (int i = 0; i < a && can; i++) {
                can = folding.fold('h', 0);
            }
            for (int i = 0; i < b && can; i++) {
                can = folding.fold('v', 0);
            }
            return can && (d == 0 || folding.fold('d', 0));
        }

        /** Whether the pattern fits; if not, unlike is the first cell that tells. */
        boolean match(int[] wanted) {
            Arrays.fill(knownRows, 0);
            Arrays.fill(bareRows, 0);
            bareCount = 0;
            for (int y = 0; y < folding.size; y++) {
                for (int x = 0; x < folding.size; x++) {
                    boolean isBare = ((wanted[y] >> x) & 1) == 0;
                    int place = folding.placeOf(x, y);
                    if (place >= 0 && !learn(place, isBare)) {
                        unlike = cellAt(x, y);
                        return false;
                    }
                }
            }
            return true;
        }

        private boolean learn(int place, boolean isBare) {
            if (hasBit(knownRows, place)) {
                return hasBit(bareRows, place) == isBare;
            }
            int bit = 1 << (place & 15);
            knownRows[place >> 4] |= bit;
            if (isBare) {
                bareRows[place >> 4] |= bit;
                bareCount++;
            }
            return true;
        }

        /** The least c of p x + q y > c that has just the bare places. */
        int lineAbove(int p, int q) {
            if (p == 0 && q == 0) {
                return NO_LINE;
            }
            int c = -60;
            int below = 61;
            for (int y = 0; y < folding.h; y++) {
                int bare = bareRows[y];
                int whole = knownRows[y] & ~bare;
                if (bare != 0) {
                    below = Math.min(below, q * y + Math.min(p * lowX(bare), p * highX(bare)));
                }
                if (whole != 0) {
                    c = Math.max(c, q * y + Math.max(p * lowX(whole), p * highX(whole)));
                }
                if (c >= below) {
                    return NO_LINE;
                }
            }
            return c;
        }

        private static int lowX(int row) {
            return Integer.numberOfTrailingZeros(row);
        }

        private static int highX(int row) {
            return 31 - Integer.numberOfLeadingZeros(row);
        }
    }

    /** The fewest boxes that cover the bare places of a wedge and no other one. */
    private static final class Cover {
        static final int MOST_PLACES = 64;
        private static final int MOST_BOXES = 300;
        private static final int MOST_USED = 4;
        private final int[] rows = new int[SIDE];
        private final int[] bitAt = new int[CELLS];
        private final long[] boxes = new long[MOST_BOXES];
        private int boxCount;

        int fewest(Fit fit) {
            long bare = numberPlaces(fit);
            listBoxes(fit.folding);
            for (int used = 0; used <= MOST_USED; used++) {
                if (covers(boxes, boxCount, bare, used)) {
                    return used;
                }
            }
            return -2;
        }

        /** Gives each place of the wedge a bit; the bits of the bare ones. */
        private long numberPlaces(Fit fit) {
            long bare = 0;
            int next = 0;
            for (int y = 0; y < fit.folding.h; y++) {
                // what is beside the wedge is no harm in a box: it counts as bare there
                rows[y] = fit.bareRows[y] | (fit.folding.diagonal ? (1 << y) - 1 : 0);
                for (int x = 0; x < fit.folding.w; x++) {
                    if (fit.folding.holds(x, y)) {
                        bitAt[cellAt(x, y)] = next;
                        bare |= (long) ((fit.bareRows[y] >> x) & 1) << next;
                        next++;
                    }
                }
            }
            return bare;
        }

        private void listBoxes(Folding folding) {
            boxCount = 0;
            for (int top = 0; top < folding.h; top++) {
                int common = (1 << folding.w) - 1;
                for (int end = top; end < folding.h && common != 0; end++) {
                    common &= rows[end];
                    listRuns(common, top, end, folding);
                }
            }
        }

        /** Only boxes that can't grow are worth using. */
        private void listRuns(int common, int top, int end, Folding folding) {
            int left = common;
            for (int i = 0; i < SIDE && left != 0; i++) {
                int start = left & -left;
                int run = left & ~(left + start);
                left &= ~run;
                boolean growsUp = top > 0 && (rows[top - 1] & run) == run;
                boolean growsDown = end < folding.h - 1 && (rows[end + 1] & run) == run;
                if (!growsUp && !growsDown) {
                    addBox(run, top, end, folding);
                }
            }
        }

        private void addBox(int run, int top, int end, Folding folding) {
            long box = 0;
            for (int y = top; y <= end; y++) {
                for (int x = 0; x < folding.w; x++) {
                    if (((run >> x) & 1) == 1 && folding.holds(x, y)) {
                        box |= 1L << bitAt[cellAt(x, y)];
                    }
                }
            }
            if (box != 0 && boxCount < MOST_BOXES) {
                boxes[boxCount] = box;
                boxCount++;
            }
        }

        /** Whether so many boxes can cover all that is left; one of them must have its first. */
        private static boolean covers(long[] boxes, int count, long left, int used) {
            if (left == 0) {
                return true;
            }
            if (used <= 0 || used > MOST_USED) {
                return false;
            }
            long first = left & -left;
            for (int i = 0; i < count && i < MOST_BOXES; i++) {
                if ((boxes[i] & first) != 0
                        && covers(boxes, count, left & ~boxes[i], used - 1)) {
                    return true;
                }
            }
            return false;
        }
    }

    /** Orders cut from strips. */
    private static final class Packing {
        static final int MOST_ORDERS = 10;
        int together;
        private final int[] least = new int[1 << MOST_ORDERS];

        /** How many strips; -2 if an order is too long, or 0. */
        int pack(Tape tape, int n, int length) {
            together = 0;
            for (int i = 0; i < n; i++) {
                int order = tape.bytes[i];
                if (order < 1 || order > length) {
                    return -2;
                }
                together += order;
            }
            // of each set of orders: 256 times the full strips, and what the last one has given
            least[0] = 0;
            for (int set = 1; set < 1 << n; set++) {
                least[set] = leastOf(set, tape, n, length);
            }
            return least[(1 << n) - 1] / 256 + 1;
        }

        private int leastOf(int set, Tape tape, int n, int length) {
            int best = Integer.MAX_VALUE;
            for (int i = 0; i < n; i++) {
                if (((set >> i) & 1) == 1) {
                    int before = least[set ^ (1 << i)];
                    int order = tape.bytes[i];
                    int given = before % 256 + order;
                    int with = given <= length ? before + order : before - before % 256 + 256 + order;
                    best = Math.min(best, with);
                }
            }
            return best;
        }
    }

    /** The condition of a snip, put behind one another so that it can be asked place by place. */
    private static final class Condition {
        static final int NUMBER = '0';
        private static final int MOST_STACK = 40;
        private final int[] steps = new int[MOST_TEXT];
        private final int[] values = new int[MOST_TEXT];
        private final int[] stack = new int[MOST_STACK];
        private int length;
        private int top;
        private boolean truth;
        private boolean refused;

        void clear() {
            length = 0;
        }

        /** One step more: a sign of the language, or NUMBER; where it stands. */
        int put(int step, int value) {
            if (length >= MOST_TEXT) {
                return NONE;
            }
            steps[length] = step;
            values[length] = value;
            length++;
            return length - 1;
        }

        /** A jump that was put earlier goes to what comes next. */
        void aimHere(int jump) {
            if (jump >= 0 && jump < length) {
                values[jump] = length;
            }
        }

        boolean holdsAt(int x, int y, int thickness) {
            top = 0;
            truth = false;
            refused = false;
            int at = 0;
            for (int i = 0; i < MOST_TEXT && at < length && !refused; i++) {
                int step = steps[at];
                int value = values[at];
                at++;
                switch (step) {
                    case NUMBER:
                        push(value);
                        break;
                    case 'x':
                        push(x);
                        break;
                    case 'y':
                        push(y);
                        break;
                    case 'l':
                        push(thickness);
                        break;
                    case '!':
                        truth = !truth;
                        break;
                    case '|':
                        at = truth ? Math.max(at, value) : at;
                        break;
                    case '&':
                        at = truth ? at : Math.max(at, value);
                        break;
                    default:
                        reckon(step);
                        break;
                }
            }
            return truth && !refused;
        }

        private void push(int value) {
            if (top < MOST_STACK) {
                stack[top] = value;
                top++;
            }
        }

        private void reckon(int step) {
            if (top < 2) {
                refused = true;
                return;
            }
            top -= 2;
            int a = stack[top];
            int b = stack[top + 1];
            switch (step) {
                case '+':
                    push(a + b);
                    break;
                case '-':
                    push(a - b);
                    break;
                case '*':
                    push(a * b);
                    break;
                case '<':
                    truth = a < b;
                    break;
                case '>':
                    truth = a > b;
                    break;
                case '=':
                    truth = a == b;
                    break;
                default:
                    if (b == 0) {
                        refused = true;
                    } else {
                        push(step == '/' ? a / b : a % b);
                    }
                    break;
            }
        }
    }

    /** Reads a recipe from the left; after a fault nothing more is read. */
    private static final class Reader {
        private static final int CANT_STAND = 1;
        private static final int SIXTH_DIGIT = 2;
        private static final int CANT_FOLD = 3;
        private static final int THIRTEENTH_SNIP = 4;
        private static final int TOO_DEEP = 5;
        private static final int NO_PLACE = 6;
        private static final int MOST_OPEN = 6;
        private final Folding folding = new Folding();
        private final Condition condition = new Condition();
        private final int[] text = new int[MOST_TEXT];
        private final int[] letters = new int[MOST_FOLDS];
        private final int[] cut = new int[SIDE];
        private int end;
        private int at;
        private int fault;
        private int faultAt;
        private int foldCount;
        private int snipCount;
        private int placeX;
        private int placeY;

        /** How many snips, or the answer that tells the fault. */
        int read(Tape tape, int length, int size) {
            begin(tape, length, size);
            readFolds();
            boolean more = true;
            for (int i = 0; i <= MOST_SNIPS && fault == 0 && more; i++) {
                readSnip();
                more = at < end;
                if (more) {
                    take(';');
                }
            }
            return fault == 0 ? snipCount : -1000 * fault - faultAt;
        }

        private void begin(Tape tape, int length, int size) {
            end = Math.max(0, Math.min(length, MOST_TEXT));
            System.arraycopy(tape.bytes, 0, text, 0, end);
            Arrays.fill(cut, 0);
            folding.start(size);
            at = 0;
            fault = 0;
            faultAt = 0;
            foldCount = 0;
            snipCount = 0;
        }

        void handTo(Table table) {
            table.snipCount = snipCount;
            table.foldCount = foldCount;
            System.arraycopy(letters, 0, table.letters, 0, MOST_FOLDS);
            System.arraycopy(cut, 0, table.cut, 0, SIDE);
        }

        private int look() {
            return at >= 0 && at < end ? text[at] : NONE;
        }

        private boolean seesDigit() {
            return at >= 0 && at < end && text[at] >= '0' && text[at] <= '9';
        }

        private void fail(int number, int place) {
            if (fault == 0) {
                fault = number;
                faultAt = place;
            }
        }

        private void take(int sign) {
            if (fault != 0) {
                return;
            }
            if (look() == sign) {
                at++;
            } else {
                fail(CANT_STAND, at);
            }
        }

        private void readFolds() {
            for (int i = 0; i <= MOST_TEXT && fault == 0; i++) {
                int sign = look();
                if (sign == ':') {
                    at++;
                    return;
                }
                if (sign != 'h' && sign != 'v' && sign != 'd') {
                    fail(CANT_STAND, at);
                } else if (foldCount >= MOST_FOLDS || !folding.fold(sign, 0)) {
                    fail(CANT_FOLD, at);
                } else {
                    letters[foldCount] = sign;
                    foldCount++;
                    at++;
                }
            }
        }

        private void readSnip() {
            int sign = look();
            if (sign != 's' && sign != 'r' && sign != 'c') {
                fail(CANT_STAND, at);
                return;
            }
            if (snipCount >= MOST_SNIPS) {
                fail(THIRTEENTH_SNIP, at);
                return;
            }
            at++;
            if (sign == 'c') {
                readWhere();
            } else {
                readBox(sign == 'r');
            }
            snipCount++;
        }

        private void readWhere() {
            take('(');
            condition.clear();
            readCondition(1);
            take(')');
            for (int y = 0; y < folding.h && fault == 0; y++) {
                for (int x = 0; x < folding.w; x++) {
                    if (folding.holds(x, y)
                            && condition.holdsAt(x, y, folding.thickness(x, y))) {
                        cut[y] |= 1 << x;
                    }
                }
            }
        }

        private void readBox(boolean hasOther) {
            readPlace(0, 0);
            int firstX = placeX;
            int firstY = placeY;
            if (hasOther) {
                take('-');
                readPlace(firstX, firstY);
            }
            if (fault != 0) {
                return;
            }
            for (int y = firstY; y <= placeY; y++) {
                for (int x = firstX; x <= placeX; x++) {
                    if (folding.holds(x, y)) {
                        cut[y] |= 1 << x;
                    }
                }
            }
        }

        private void readPlace(int leastX, int leastY) {
            int from = at;
            placeX = readOneOrTwoDigits();
            take(',');
            placeY = readOneOrTwoDigits();
            if (placeX < leastX || placeY < leastY || !folding.holds(placeX, placeY)) {
                fail(NO_PLACE, from);
            }
        }

        private int readOneOrTwoDigits() {
            if (!seesDigit()) {
                fail(CANT_STAND, at);
            }
            int value = 0;
            for (int i = 0; i < 2 && fault == 0 && seesDigit(); i++) {
                value = 10 * value + look() - '0';
                at++;
            }
            return value;
        }

        /** Parts with | between; behind one that holds, the jump skips the next one. */
        private void readCondition(int open) {
            int jump = NONE;
            for (int i = 0; i < MOST_TEXT && fault == 0; i++) {
                readPart(open);
                condition.aimHere(jump);
                if (look() != '|') {
                    return;
                }
                at++;
                jump = condition.put('|', 0);
            }
        }

        private void readPart(int open) {
            int jump = NONE;
            for (int i = 0; i < MOST_TEXT && fault == 0; i++) {
                readPiece(open);
                condition.aimHere(jump);
                if (look() != '&') {
                    return;
                }
                at++;
                jump = condition.put('&', 0);
            }
        }

        private void readPiece(int open) {
            int sign = look();
            if (sign == '!' || sign == '(') {
                if (!mayOpen(open)) {
                    return;
                }
                at++;
                if (sign == '!') {
                    readPiece(open + 1);
                    condition.put('!', 0);
                } else {
                    readCondition(open + 1);
                    take(')');
                }
                return;
            }
            readSum(open);
            int relation = look();
            if (relation != '<' && relation != '>' && relation != '=') {
                fail(CANT_STAND, at);
                return;
            }
            at++;
            readSum(open);
            condition.put(relation, 0);
        }

        private boolean mayOpen(int open) {
            if (open >= MOST_OPEN) {
                fail(TOO_DEEP, at);
            }
            return fault == 0;
        }

        private void readSum(int open) {
            readTerm(open);
            for (int i = 0; i < MOST_TEXT && fault == 0; i++) {
                int sign = look();
                if (sign != '+' && sign != '-') {
                    return;
                }
                at++;
                readTerm(open);
                condition.put(sign, 0);
            }
        }

        private void readTerm(int open) {
            readFactor(open);
            for (int i = 0; i < MOST_TEXT && fault == 0; i++) {
                int sign = look();
                if (sign != '*' && sign != '/' && sign != '%') {
                    return;
                }
                at++;
                readFactor(open);
                condition.put(sign, 0);
            }
        }

        private void readFactor(int open) {
            if (fault != 0) {
                return;
            }
            if (look() == '[') {
                if (mayOpen(open)) {
                    at++;
                    readSum(open + 1);
                    take(']');
                }
            } else if (seesDigit()) {
                readNumber();
            } else {
                readLetter();
            }
        }

        private void readNumber() {
            int value = 0;
            for (int i = 0; i < 5 && seesDigit(); i++) {
                value = 10 * value + look() - '0';
                at++;
            }
            if (seesDigit()) {
                fail(SIXTH_DIGIT, at);
            }
            condition.put(Condition.NUMBER, value);
        }

        private void readLetter() {
            int sign = look();
            switch (sign) {
                case 'x':
                case 'y':
                case 'l':
                    condition.put(sign, 0);
                    break;
                case 'w':
                    condition.put(Condition.NUMBER, folding.w);
                    break;
                case 'h':
                    condition.put(Condition.NUMBER, folding.h);
                    break;
                case 'n':
                    condition.put(Condition.NUMBER, snipCount);
                    break;
                case 'z':
                    condition.put(Condition.NUMBER, folding.size);
                    break;
                default:
                    fail(CANT_STAND, at);
                    return;
            }
            at++;
        }
    }
}
