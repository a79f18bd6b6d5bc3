/** SLIPS, ODDS and what is DRAWN; promises 23 to 27. */
final class SlipSentences {
    private static final int LEAST = Integer.MIN_VALUE;
    private static final int MOST = Integer.MAX_VALUE;

    private final Doc doc;

    private SlipSentences(Doc doc) {
        this.doc = doc;
    }

    static void ask(Doc doc) {
        SlipSentences all = new SlipSentences(doc);
        all.slipOfH();
        all.slipOfV();
        all.slipOfD();
        all.beyond();
        all.bits();
        all.slippedNumbers();
        all.spoilt();
        all.odds();
        all.noOdds();
        all.seed();
        all.drawn();
        all.belowTheTenths();
        all.noDraw();
    }

    /** The x of a row that a recipe cuts with slips. */
    private static String cutOfRow(int size, String text, int slips, int y) {
        PaperStars stars = Checks.cooked(size, text);
        StringBuilder cells = new StringBuilder();
        for (int x = 0; x < size; x++) {
            if (stars.slipped(slips, x, y) == 0) {
                cells.append(x).append(' ');
            }
        }
        return cells.toString().trim();
    }

    /** The y of column 0 that a recipe cuts with slips. */
    private static String cutOfColumn(int size, String text, int slips) {
        PaperStars stars = Checks.cooked(size, text);
        StringBuilder cells = new StringBuilder();
        for (int y = 0; y < size; y++) {
            if (stars.slipped(slips, 0, y) == 0) {
                cells.append(y).append(' ');
            }
        }
        return cells.toString().trim();
    }

    private void row(int size, String text, int slips, String want) {
        doc.due(size + " " + text + " slips " + slips + " cuts", cutOfRow(size, text, slips, 0), want);
    }

    private void column(int size, String text, int slips, String want) {
        doc.due(size + " " + text + " slips " + slips + " cuts", cutOfColumn(size, text, slips), want);
    }

    private void slipOfH() {
        doc.says("SLIPS: each FOLD of the RECIPE may slip by one: h: to W - x,");
        row(8, "h:s0,0", 0, "0 7");
        row(8, "h:s0,0", 1, "0");
        row(8, "h:s1,0", 1, "1 7");
        row(8, "h:s2,0", 1, "2 6");
        row(8, "h:s3,0", 1, "3 5");
        row(8, "h:s3,0", 0, "3 4");
        row(2, "h:s0,0", 0, "0 1");
        row(2, "h:s0,0", 1, "0");
        row(16, "h:s7,0", 1, "7 9");
        // the second fold slips by its own W
        row(8, "hh:s1,0", 0, "1 2 5 6");
        row(8, "hh:s1,0", 2, "1 3 4 6");
        row(8, "hh:s1,0", 1, "1 2 6 7");
        row(8, "hh:s1,0", 3, "1 3 5 7");
    }

    private void slipOfV() {
        doc.says("v: to H - y ");
        column(8, "v:s0,0", 0, "0 7");
        column(8, "v:s0,0", 1, "0");
        column(8, "v:s0,1", 1, "1 7");
        column(8, "v:s0,3", 1, "3 5");
        column(2, "v:s0,0", 1, "0");
        column(8, "vv:s0,1", 2, "1 3 4 6");
        column(8, "vv:s0,1", 3, "1 3 5 7");
    }

    private void slipOfD() {
        doc.says("d: to x' = y, y' = x and 1.");
        PaperStars stars = Checks.cooked(4, "d:c(y=1)");
        for (int y = 1; y < 4; y++) {
            for (int x = 0; x < 4; x++) {
                boolean cut = y > x ? x == 1 : y == 1;
                doc.due("without, " + x + " " + y, stars.slipped(0, x, y), cut ? 0 : 1);
                boolean with = y > x ? x == 0 : y == 1;
                doc.due("with, " + x + " " + y, stars.slipped(1, x, y), with ? 0 : 1);
            }
        }
        // y' is x and 1: at most y, so it never comes beyond
        PaperStars all = Checks.cooked(16, "d:c(1=1)");
        doc.due("none comes beyond", all.spoilt(1), 0);
        PaperStars slant = Checks.cooked(4, "d:c(x=y)");
        doc.due("to the slant", slant.slipped(1, 2, 3), 0);
        doc.due("not to the slant", slant.slipped(1, 1, 3), 1);
        doc.due("above the slant", slant.slipped(1, 3, 2), 1);
        doc.due("on the slant", slant.slipped(1, 3, 3), 0);
        doc.due("three more", slant.spoilt(1), 3);
        PaperStars two = Checks.cooked(2, "d:s1,1");
        doc.due("of 2", two.slipped(1, 0, 1), 0);
        doc.due("of 2", two.slipped(0, 0, 1), 1);
    }

    private void beyond() {
        doc.says("(what comes beyond the WEDGE is never cut),");
        for (int size = 2; size <= 16; size += 2) {
            int half = size / 2;
            PaperStars h = Checks.cooked(size, "h:c(1=1)");
            PaperStars v = Checks.cooked(size, "v:c(1=1)");
            for (int i = 0; i < size; i++) {
                doc.due(size + " h " + i, h.slipped(1, i, 0), i == half ? 1 : 0);
                doc.due(size + " v " + i, v.slipped(1, 0, i), i == half ? 1 : 0);
            }
            doc.due(size + " h", h.spoilt(1), size);
            doc.due(size + " v", v.spoilt(1), size);
        }
        // a later slip brings nothing back
        row(4, "hh:c(1=1)", 3, "0");
        row(4, "hh:s0,0", 3, "0");
        row(8, "hh:c(1=1)", 3, "0 1 3 5 7");
        PaperStars both = Checks.cooked(4, "hv:c(1=1)");
        doc.due("h beyond", both.slipped(3, 2, 0), 1);
        doc.due("v beyond", both.slipped(3, 0, 2), 1);
        doc.due("both beyond", both.slipped(3, 2, 2), 1);
        doc.due("none beyond", both.slipped(3, 3, 3), 0);
        PaperStars slant = Checks.cooked(16, "hhvvd:c(1=1)");
        doc.due("h beyond, d slips", slant.slipped(17, 8, 0), 1);
        doc.due("v beyond, d slips", slant.slipped(20, 0, 8), 1);
    }

    private void bits() {
        doc.says("OPENED with SLIPS (bits by FOLDS).");
        doc.says("OPENED with SLIPS (bits by FOLDS, the first one lowest): whether a CELL has"
                + " PAPER (1, 0);");
        PaperStars stars = Checks.cooked(8, "vhvh:s0,0");
        // of v the cells 0, 3, 4, 7 come to 0; if the first slips 0, 3, 5; the second 0, 7; both 0
        int[][] comes = {{0, 3, 4, 7}, {0, 3, 5}, {0, 7}, {0}};
        for (int slips = 0; slips < 16; slips++) {
            int byY = slips & 1 | slips >> 1 & 2;
            int byX = slips >> 1 & 1 | slips >> 2 & 2;
            for (int x = 0; x < 8; x++) {
                doc.due("vhvh slips " + slips + " x " + x, stars.slipped(slips, x, 0),
                        holds(comes[byX], x) ? 0 : 1);
                doc.due("vhvh slips " + slips + " y " + x, stars.slipped(slips, 0, x),
                        holds(comes[byY], x) ? 0 : 1);
            }
        }
    }

    private static boolean holds(int[] all, int one) {
        for (int i : all) {
            if (i == one) {
                return true;
            }
        }
        return false;
    }

    private void slippedNumbers() {
        doc.says("NONE: no such ones.");
        String[] folds = {"", "h", "hv", "hvd", "hvhv", "hvhvd", "hvhvhv", "hvhvhvd", "hvhvhvhv"};
        for (int count = 0; count < folds.length; count++) {
            PaperStars stars = Checks.cooked(16, folds[count] + ":s0,0");
            int all = (1 << count) - 1;
            doc.due(count + " folds, none slips", stars.slipped(0, 0, 0), 0);
            doc.due(count + " folds, all slip", stars.slipped(all, 0, 0), 0);
            doc.due(count + " folds, one bit more", stars.slipped(all + 1, 0, 0), -1);
            doc.due(count + " folds, -1", stars.slipped(-1, 0, 0), -1);
            doc.due(count + " folds, least", stars.slipped(LEAST, 0, 0), -1);
            doc.due(count + " folds, most", stars.slipped(MOST, 0, 0), -1);
            doc.due(count + " folds, 65536", stars.slipped(65536, 0, 0), -1);
        }
        PaperStars none = new PaperStars();
        doc.due("no recipe", none.slipped(0, 15, 15), 1);
        doc.due("no recipe, a bit", none.slipped(1, 15, 15), -1);
        PaperStars stars = Checks.cooked(4, "hv:s0,0");
        doc.due("the last cell", stars.slipped(0, 3, 3), 0);
        int[][] wrong = {{4, 0}, {0, 4}, {-1, 0}, {0, -1}, {16, 0}, {0, 16}, {256, 0}, {0, 256},
            {LEAST, 0}, {0, LEAST}, {MOST, 0}, {0, MOST}};
        for (int[] cell : wrong) {
            for (int slips = 0; slips <= 4; slips++) {
                doc.due("slipped " + slips + " " + cell[0] + " " + cell[1],
                        stars.slipped(slips, cell[0], cell[1]), -1);
            }
        }
    }

    private void spoilt() {
        doc.says("CELLS that are otherwise with SLIPS than without; NONE: no such bits.");
        PaperStars stars = Checks.cooked(4, "hv:s0,0");
        // without slips the four corners are cut
        int[] answers = {0, 2, 2, 3};
        for (int slips = 0; slips < 4; slips++) {
            doc.due("spoilt " + slips, stars.spoilt(slips), answers[slips]);
        }
        for (int slips : new int[] {LEAST, LEAST + 1, -2, -1, 4, 5, 8, 256, 65536, MOST}) {
            doc.due("spoilt " + slips, stars.spoilt(slips), -1);
        }
        doc.due("no recipe", new PaperStars().spoilt(0), 0);
        doc.due("no recipe, a bit", new PaperStars().spoilt(1), -1);
        doc.due("nothing is cut", Checks.cooked(16, "hv:c(1=2)").spoilt(3), 0);
        // cells that are cut only with slips count, too
        PaperStars both = Checks.cooked(4, "h:s1,0");
        doc.due("one less and one more", both.spoilt(1), 2);
        PaperStars eight = Checks.cooked(16, "hhhhvvvv:s0,0");
        doc.due("eight folds, none", eight.spoilt(0), 0);
        doc.due("eight folds, all but one cell", eight.spoilt(255), 255);
        doc.due("eight folds, one bit more", eight.spoilt(256), -1);
    }

    private void odd(PaperStars stars, int tenths, int k, long above, long below) {
        doc.due("odds " + tenths + " " + k + " above", stars.odds(tenths, k, 0), above);
        doc.due("odds " + tenths + " " + k + " below", stars.odds(tenths, k, 1), below);
    }

    private void odds() {
        doc.says("ODDS: a FOLD slips by so many tenths (0 to 10), each by itself: that none does,"
                + " that just k do.");
        doc.says("ODDS by tenths (0 to 10), that just k FOLDS slip (0 to 8), what 0 above, 1 below"
                + " the line, without a common divisor;");
        PaperStars none = new PaperStars();
        for (int tenths = 0; tenths <= 10; tenths++) {
            odd(none, tenths, 0, 1, 1);
            odd(none, tenths, 1, 0, 1);
            odd(none, tenths, 8, 0, 1);
        }
        PaperStars two = Checks.cooked(16, "hv:s0,0");
        odd(two, 0, 0, 1, 1);
        odd(two, 0, 1, 0, 1);
        odd(two, 0, 2, 0, 1);
        odd(two, 10, 0, 0, 1);
        odd(two, 10, 1, 0, 1);
        odd(two, 10, 2, 1, 1);
        odd(two, 10, 3, 0, 1);
        odd(two, 1, 0, 81, 100);
        odd(two, 1, 1, 9, 50);
        odd(two, 1, 2, 1, 100);
        odd(two, 5, 1, 1, 2);
        odd(two, 4, 1, 12, 25);
        odd(two, 9, 2, 81, 100);
        odd(two, 5, 3, 0, 1);
        odd(two, 5, 8, 0, 1);
        PaperStars eight = Checks.cooked(16, "hhhhvvvv:s0,0");
        odd(eight, 1, 8, 1, 100000000);
        odd(eight, 9, 0, 1, 100000000);
        odd(eight, 9, 8, 43046721, 100000000);
        odd(eight, 3, 4, 1361367, 10000000);
        odd(eight, 5, 4, 35, 128);
        odd(eight, 10, 8, 1, 1);
        odd(eight, 10, 7, 0, 1);
        odd(eight, 0, 0, 1, 1);
        PaperStars seven = Checks.cooked(16, "hhhvvvd:s0,0");
        odd(seven, 5, 7, 1, 128);
        odd(seven, 5, 8, 0, 1);
    }

    private void noOdds() {
        doc.says("-1: no such ones.");
        PaperStars stars = Checks.cooked(16, "hv:s0,0");
        for (int tenths : new int[] {LEAST, -10, -1, 11, 12, 256, 65536, 65541, MOST}) {
            doc.due("tenths " + tenths, stars.odds(tenths, 0, 0), -1);
            doc.due("tenths " + tenths, stars.odds(tenths, 0, 1), -1);
        }
        for (int k : new int[] {LEAST, -2, -1, 9, 10, 256, 65536, MOST}) {
            doc.due("k " + k, stars.odds(5, k, 0), -1);
            doc.due("k " + k, stars.odds(5, k, 1), -1);
        }
        for (int what : new int[] {LEAST, -2, -1, 2, 3, 256, 65536, MOST}) {
            doc.due("what " + what, stars.odds(5, 0, what), -1);
        }
        doc.due("none kept by them", stars.count(4), 1);
    }

    private void seed() {
        doc.says("THE SEED (0 to 65535; X, too): true; false: no such number.");
        PaperStars stars = new PaperStars();
        for (int x : new int[] {0, 1, 32767, 32768, 65534, 65535}) {
            doc.due("seed " + x, stars.seed(x), true);
            doc.due("X " + x, stars.count(4), x);
        }
        for (int x : new int[] {-1, -2, 65536, 65537, 131071, LEAST, LEAST + 1, MOST}) {
            doc.due("seed " + x, stars.seed(x), false);
            doc.due("X stays", stars.count(4), 65535);
        }
    }

    private static int next(int x) {
        return (int) ((25173L * x + 13849L) % 65536L);
    }

    private void drawn() {
        doc.says("DRAWN: for each FOLD X = (25173 X + 13849) modulo 65536"
                + " (X is THE SEED at first, 1):");
        PaperStars first = Checks.cooked(16, "h:s0,0");
        doc.due("X at first", first.count(4), 1);
        first.draw(5);
        doc.due("X behind one fold", first.count(4), 39022);
        int wraps = 0;
        for (int seed : new int[] {0, 1, 2, 3, 32767, 32768, 40000, 65534, 65535}) {
            PaperStars stars = Checks.cooked(16, "hhhhvvvv:s0,0");
            stars.seed(seed);
            int x = seed;
            int slips = 0;
            for (int fold = 0; fold < 8; fold++) {
                wraps += 25173L * x + 13849L >= 65536L ? 1 : 0;
                x = next(x);
                slips |= x % 10 < 5 ? 1 << fold : 0;
            }
            doc.due("draw from " + seed, stars.draw(5), slips);
            doc.due("X behind it", stars.count(4), x);
        }
        doc.due("it wrapped", wraps > 60, true);
        // the X ahead of 0 and of 65535
        for (int target : new int[] {0, 65535}) {
            int before = 0;
            while (next(before) != target) {
                before++;
            }
            PaperStars stars = Checks.cooked(16, "h:s0,0");
            stars.seed(before);
            doc.due("draw to " + target, stars.draw(10), 1);
            doc.due("X", stars.count(4), target);
            stars.draw(10);
            doc.due("X behind it", stars.count(4), next(target));
        }
        PaperStars none = new PaperStars();
        doc.due("no folds", none.draw(10), 0);
        doc.due("no folds, X stays", none.count(4), 1);
    }

    private void belowTheTenths() {
        doc.says("it slips if X modulo 10 is below the tenths.");
        for (int last = 0; last < 10; last++) {
            int seed = 0;
            while (next(seed) % 10 != last) {
                seed++;
            }
            for (int tenths = 0; tenths <= 10; tenths++) {
                PaperStars stars = Checks.cooked(16, "h:s0,0");
                stars.seed(seed);
                doc.due("X ends with " + last + ", draw " + tenths, stars.draw(tenths),
                        last < tenths ? 1 : 0);
                doc.due("X goes on", stars.count(4), next(seed));
            }
        }
    }

    private void noDraw() {
        doc.says("DRAWN by tenths (0 to 10): SLIPS, as bits; NONE: no such ones.");
        PaperStars stars = Checks.cooked(16, "hvd:s0,0");
        doc.due("0 tenths", stars.draw(0), 0);
        int x = next(next(next(1)));
        doc.due("X goes on", stars.count(4), x);
        doc.due("10 tenths", stars.draw(10), 7);
        x = next(next(next(x)));
        doc.due("X goes on", stars.count(4), x);
        for (int tenths : new int[] {LEAST, -2, -1, 11, 12, 256, 65536, 65541, MOST}) {
            doc.due("draw " + tenths, stars.draw(tenths), -1);
            doc.due("X stays", stars.count(4), x);
        }
        PaperStars eight = Checks.cooked(16, "hhhhvvvv:s0,0");
        doc.due("all of eight", eight.draw(10), 255);
    }
}
