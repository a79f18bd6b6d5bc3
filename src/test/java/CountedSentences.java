import java.math.BigInteger;

/** ALIKE and STRIPS; promises 21 and 22. */
final class CountedSentences {
    private static final int LEAST = Integer.MIN_VALUE;
    private static final int MOST = Integer.MAX_VALUE;

    private final Doc doc;

    private CountedSentences(Doc doc) {
        this.doc = doc;
    }

    static void ask(Doc doc) {
        CountedSentences all = new CountedSentences(doc);
        all.alike();
        all.alikeOfAll();
        all.noAlike();
        all.strips();
        all.orders();
        all.noStrips();
    }

    private void alike() {
        doc.says("ALIKE: patterns on n by n CELLS (1 to 7) with k CELLS without PAPER,"
                + " those that are one by turning and mirroring counted once.");
        long[][] small = {{1, 1}, {1, 1, 2, 1, 1}, {1, 3, 8, 16, 23, 23, 16, 8, 3, 1}};
        PaperStars stars = new PaperStars();
        for (int n = 1; n <= 3; n++) {
            for (int k = 0; k <= n * n; k++) {
                doc.due("alike " + n + " " + k, stars.alike(n, k), small[n - 1][k]);
            }
        }
        doc.says("ALIKE; -1: no such ones.");
        for (int n = 1; n <= 7; n++) {
            doc.due("none bare of " + n, stars.alike(n, 0), 1);
            doc.due("all bare of " + n, stars.alike(n, n * n), 1);
            int corner = (n + 1) / 2;
            doc.due("one bare of " + n, stars.alike(n, 1), corner * (corner + 1) / 2);
            doc.due("one with paper of " + n, stars.alike(n, n * n - 1),
                    corner * (corner + 1) / 2);
        }
    }

    /** By how many cells the rings of each turn have: a polynomial for each of the eight. */
    private static long plainly(int n, int k) {
        BigInteger sum = BigInteger.ZERO;
        for (int turn = 0; turn < 8; turn++) {
            BigInteger[] ways = new BigInteger[n * n + 1];
            java.util.Arrays.fill(ways, BigInteger.ZERO);
            ways[0] = BigInteger.ONE;
            boolean[] met = new boolean[n * n];
            for (int cell = 0; cell < n * n; cell++) {
                int ring = 0;
                for (int at = cell; !met[at]; at = turned(n, at, turn)) {
                    met[at] = true;
                    ring++;
                }
                for (int i = n * n; ring > 0 && i >= ring; i--) {
                    ways[i] = ways[i].add(ways[i - ring]);
                }
            }
            sum = sum.add(ways[k]);
        }
        return sum.divide(BigInteger.valueOf(8)).longValueExact();
    }

    private static int turned(int n, int cell, int turn) {
        int x = cell % n;
        int y = cell / n;
        for (int i = 0; i < turn % 4; i++) {
            int t = x;
            x = n - 1 - y;
            y = t;
        }
        return n * y + (turn < 4 ? x : n - 1 - x);
    }

    private void alikeOfAll() {
        doc.says("ALIKE: patterns on n by n CELLS (1 to 7) with k CELLS without PAPER,"
                + " those that are one by turning and mirroring counted once.");
        PaperStars stars = new PaperStars();
        for (int n = 1; n <= 7; n++) {
            for (int k = 0; k <= n * n; k++) {
                doc.due("alike " + n + " " + k, stars.alike(n, k), plainly(n, k));
            }
        }
        // more than 32 bits have
        doc.due("most", stars.alike(7, 24) > 7900000000000L, true);
    }

    private void noAlike() {
        doc.says("ALIKE; -1: no such ones.");
        PaperStars stars = new PaperStars();
        for (int n : new int[] {LEAST, -7, -1, 0, 8, 9, 256, 65536, 65537, MOST}) {
            doc.due("n " + n, stars.alike(n, 0), -1);
            doc.due("n " + n, stars.alike(n, 1), -1);
        }
        for (int n = 1; n <= 7; n++) {
            for (int k : new int[] {LEAST, -2, -1, n * n + 1, n * n + 2, 65536, MOST}) {
                doc.due("alike " + n + " " + k, stars.alike(n, k), -1);
            }
        }
        doc.due("n 8, k 64", stars.alike(8, 64), -1);
        doc.due("n -1, k 1", stars.alike(-1, 1), -1);
    }

    /** The answer for orders, and how many bytes the tape has then. */
    private void cut(int length, int n, int what, int want, int... orders) {
        PaperStars stars = new PaperStars();
        Checks.feed(stars, orders);
        String name = "strips " + length + " " + n + " " + what + " of "
                + java.util.Arrays.toString(orders);
        doc.due(name, stars.strips(length, n, what), want);
        doc.due(name + ", bytes", stars.count(3), want == -1 ? 20 : 0);
    }

    private void both(int length, int strips, int left, int... orders) {
        cut(length, orders.length, 0, strips, orders);
        cut(length, orders.length, 1, left, orders);
    }

    private void strips() {
        doc.says("STRIPS: lengths of orders (1 to 10, of 1 to 255) are cut from strips of a told"
                + " length: the fewest strips; what is left over together.");
        both(1, 1, 0, 1);
        both(1, 10, 0, 1, 1, 1, 1, 1, 1, 1, 1, 1, 1);
        both(255, 1, 0, 255);
        both(255, 1, 254, 1);
        both(255, 10, 0, 255, 255, 255, 255, 255, 255, 255, 255, 255, 255);
        both(255, 10, 1270, 128, 128, 128, 128, 128, 128, 128, 128, 128, 128);
        both(254, 5, 0, 127, 127, 127, 127, 127, 127, 127, 127, 127, 127);
        both(255, 5, 5, 127, 127, 127, 127, 127, 127, 127, 127, 127, 127);
        both(10, 1, 0, 1, 1, 1, 1, 1, 1, 1, 1, 1, 1);
        both(9, 2, 8, 1, 1, 1, 1, 1, 1, 1, 1, 1, 1);
        // the longest first into the first that has room would take three
        both(10, 2, 0, 5, 4, 4, 3, 2, 2);
        both(12, 3, 0, 6, 6, 5, 5, 4, 3, 2, 2, 2, 1);
        both(10, 2, 1, 6, 4, 3, 3, 3);
        both(7, 2, 2, 4, 4, 2, 2);
    }

    private void orders() {
        doc.says("STRIPS of a length (1 to 255) by the first n bytes of the tape (orders; 1 to 10;"
                + " empty then), what 0 how many, 1 what is left over;");
        // bytes behind the first n are no orders, whatever they are
        cut(10, 1, 0, 1, 10, 11, 0);
        cut(10, 2, 1, 0, 4, 6, 0);
        cut(1, 10, 0, 10, 1, 1, 1, 1, 1, 1, 1, 1, 1, 1, 0, 255);
        PaperStars stars = new PaperStars();
        for (int i = 0; i < 10; i++) {
            stars.feed(0x05050505, 0x05050505, 0x05050505, 0, 0);
        }
        doc.due("200 bytes", stars.strips(10, 10, 0), 5);
        doc.due("empty then", stars.count(3), 0);
        doc.says("-2: an order is too long, or 0;");
        cut(10, 1, 0, 1, 10);
        cut(10, 1, 0, -2, 11);
        cut(10, 1, 1, -2, 11);
        cut(10, 1, 0, -2, 0);
        cut(10, 1, 1, -2, 0);
        cut(254, 1, 0, -2, 255);
        cut(1, 1, 0, -2, 2);
        cut(10, 3, 0, -2, 10, 10, 11);
        cut(10, 3, 0, -2, 10, 0, 10);
        cut(255, 10, 0, -2, 1, 1, 1, 1, 1, 1, 1, 1, 1, 0);
    }

    private void noStrips() {
        doc.says("NONE: no such ones, it has not so many (the tape stays).");
        for (int length : new int[] {LEAST, -1, 0, 256, 257, 512, 65536, 65537, MOST}) {
            cut(length, 1, 0, -1, 1);
        }
        for (int n : new int[] {LEAST, -1, 0, 11, 12, 20, 21, 256, 65536, 65537, MOST}) {
            cut(255, n, 0, -1, 1, 1, 1, 1, 1, 1, 1, 1, 1, 1, 1, 1, 1, 1, 1, 1, 1, 1, 1, 1);
        }
        for (int what : new int[] {LEAST, -2, -1, 2, 3, 256, 65536, MOST}) {
            cut(255, 1, what, -1, 1);
            // asked ahead of the orders
            cut(10, 1, what, -1, 11);
        }
        PaperStars empty = new PaperStars();
        for (int n = 1; n <= 10; n++) {
            doc.due("no tape, n " + n, empty.strips(255, n, 0), -1);
        }
        PaperStars stays = new PaperStars();
        stays.feed(0x01020304, 0x05060708, 0x090a0000, 0, 0);
        doc.due("refused", stays.strips(0, 10, 0), -1);
        doc.due("refused", stays.strips(10, 11, 0), -1);
        doc.due("the tape stays", stays.strips(11, 10, 0), 5);
    }
}
