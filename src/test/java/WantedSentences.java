/** WANTED, FITS, DIFFERS and THE BEST FOLD; promises 13 to 17. */
final class WantedSentences {
    private static final int LEAST = Integer.MIN_VALUE;
    private static final int MOST = Integer.MAX_VALUE;

    private final Doc doc;

    private WantedSentences(Doc doc) {
        this.doc = doc;
    }

    static void ask(Doc doc) {
        WantedSentences all = new WantedSentences(doc);
        all.want();
        all.refusedRows();
        all.wantOpened();
        all.differs();
        all.whichFolds();
        all.fits();
        all.bestFold();
        all.bestOfAllPatterns(2);
        all.bestOfAllPatterns(4);
        all.bestFoldNumbers();
    }

    private void want() {
        for (int size = 2; size <= 16; size += 2) {
            doc.says("WANTED: a pattern: of each CELL whether it has PAPER ");
            PaperStars stars = Checks.sheet(size);
            int full = (1 << size) - 1;
            doc.due(size + " all at first", stars.count(6), size * size);
            doc.says("WANTED: row y has PAPER where the bits of row are 1 (the lowest is x 0):"
                    + " true;");
            doc.due(size + " row 0, no bits", stars.want(0, 0), true);
            doc.due(size + " row 0", stars.count(20), 0);
            doc.due(size + " last row, all bits", stars.want(size - 1, full), true);
            doc.due(size + " last row", stars.count(19 + size), full);
            doc.due(size + " last row, last bit", stars.want(size - 1, 1 << (size - 1)), true);
            doc.due(size + " last row", stars.count(19 + size), 1 << (size - 1));
            doc.due(size + " row 0, lowest bit", stars.want(0, 1), true);
            doc.due(size + " cells", stars.count(6), size * (size - 2) + 2);
            // the lowest bit is x 0: all others of row 0 are otherwise than opened
            doc.due(size + " first unlike", stars.differs(1), 1);
            doc.says("false: no such row, bits beyond SIZE.");
            doc.due(size + " row -1", stars.want(-1, 0), false);
            doc.due(size + " row SIZE", stars.want(size, 0), false);
            doc.due(size + " row 16", stars.want(16, 0), false);
            doc.due(size + " first bit beyond", stars.want(0, 1 << size), false);
            doc.due(size + " all bits and one", stars.want(0, (1 << (size + 1)) - 1), false);
            doc.due(size + " bit 31", stars.want(0, LEAST), false);
            doc.due(size + " all 32 bits", stars.want(0, -1), false);
            doc.due(size + " most", stars.want(0, MOST), false);
            doc.due(size + " row 0 stays", stars.count(20), 1);
            doc.due(size + " cells stay", stars.count(6), size * (size - 2) + 2);
        }
    }

    private void refusedRows() {
        doc.says("false: no such row, bits beyond SIZE.");
        for (int y : new int[] {LEAST, LEAST + 1, -16, -1, 4, 5, 15, 16, 17, 256, 65536, MOST}) {
            PaperStars stars = Checks.sheet(4);
            doc.due("row " + y, stars.want(y, 3), false);
            doc.due("cells stay", stars.count(6), 16);
        }
        for (int bit = 4; bit < 32; bit++) {
            PaperStars stars = Checks.sheet(4);
            doc.due("bit " + bit, stars.want(1, 1 << bit | 3), false);
            doc.due("row stays", stars.count(21), 15);
        }
    }

    private void wantOpened() {
        doc.says("WANTED is as it is OPENED: how many CELLS have PAPER.");
        PaperStars stars = Checks.cooked(4, "h:s0,1;s1,3");
        stars.want(0, 0);
        doc.due("some", stars.wantOpened(), 12);
        int[] rows = {15, 6, 15, 9};
        for (int y = 0; y < 4; y++) {
            doc.due("row " + y, stars.count(20 + y), rows[y]);
        }
        doc.due("cells", stars.count(6), 12);
        PaperStars none = Checks.cooked(16, ":c(1=1)");
        doc.due("none", none.wantOpened(), 0);
        doc.due("none", none.count(6), 0);
        PaperStars all = new PaperStars();
        all.want(3, 0);
        doc.due("all, no recipe", all.wantOpened(), 256);
        doc.due("all", all.count(6), 256);
        // what is wanted stays when the recipe is another one then
        Checks.cook(stars, ":s0,0");
        doc.due("another recipe", stars.count(6), 12);
        doc.due("another recipe, first unlike", stars.differs(1), 0);
    }

    private void differs() {
        doc.says("How many CELLS are OPENED otherwise than WANTED (what 0),"
                + " the first of them (1; NONE: none); NONE for others.");
        PaperStars stars = Checks.cooked(16, ":c(1=1)");
        doc.due("all", stars.differs(0), 256);
        doc.due("all, the first", stars.differs(1), 0);
        stars.wantOpened();
        doc.due("none", stars.differs(0), 0);
        doc.due("none, the first", stars.differs(1), -1);
        stars.want(15, 32768);
        doc.due("the last cell", stars.differs(0), 1);
        doc.due("the last cell", stars.differs(1), 255);
        stars.want(0, 32768);
        doc.due("the last of row 0", stars.differs(0), 2);
        doc.due("the last of row 0", stars.differs(1), 15);
        for (int what : new int[] {LEAST, -2, -1, 2, 3, 256, 65536, MOST}) {
            doc.due("differs " + what, stars.differs(what), -1);
        }
        // paper that is not wanted counts as well as bare cells that are
        PaperStars both = Checks.cooked(4, ":s0,0");
        both.want(0, 13);
        doc.due("both ways", both.differs(0), 2);
        doc.due("both ways", both.differs(1), 0);
    }

    private void whichFolds() {
        for (int size = 2; size <= 16; size += 2) {
            int most = Integer.numberOfTrailingZeros(size);
            for (int a = -1; a <= 6; a++) {
                for (int b = -1; b <= 6; b++) {
                    boolean can = a >= 0 && a <= most && b >= 0 && b <= most;
                    doc.says("FOLDS a, b, d: a times h, b times v, then d (1) or not (0),"
                            + " as far as they can be.");
                    PaperStars stars = Checks.sheet(size);
                    String name = size + " fits " + a + " " + b;
                    doc.due(name + " 0", stars.fits(a, b, 0), can ? 1 : -1);
                    boolean slant = can && a == b && size >> a >= 2;
                    doc.due(name + " 1", stars.fits(a, b, 1), slant ? 1 : -1);
                    doc.says("NONE: they can't be.");
                    doc.due(name + " -1", stars.fits(a, b, -1), -1);
                    doc.due(name + " 2", stars.fits(a, b, 2), -1);
                }
            }
        }
        for (int wild : new int[] {LEAST, LEAST + 1, -65536, -256, 32, 256, 65536, 65537, MOST}) {
            PaperStars stars = new PaperStars();
            doc.due("a " + wild, stars.fits(wild, 0, 0), -1);
            doc.due("b " + wild, stars.fits(0, wild, 0), -1);
            doc.due("d " + wild, stars.fits(0, 0, wild), -1);
        }
    }

    private void fits() {
        doc.says("FITS such a FOLD, if CELLS that come to one place are all with PAPER or all"
                + " without;");
        doc.due("no folds fit all", Checks.wanted("#.", "..").fits(0, 0, 0), 1);
        doc.due("all bare", Checks.wanted("..", "..").fits(1, 1, 0), 1);
        doc.due("h", Checks.wanted("..", "##").fits(1, 0, 0), 1);
        doc.due("v", Checks.wanted(".#", ".#").fits(0, 1, 0), 1);
        doc.due("d", Checks.wanted("#.", ".#").fits(0, 0, 1), 1);
        doc.due("d", Checks.wanted("#.", "..").fits(0, 0, 1), 1);
        doc.due("h, v", Checks.wanted("#..#", "####", "####", "#..#").fits(1, 1, 0), 1);
        doc.says("it DIFFERS at the first CELL (by numbers) that is unlike an earlier one of its"
                + " place.");
        doc.says("Whether FOLDS a, b, d FIT what is WANTED: 1; else -10 less the CELL at which it"
                + " DIFFERS;");
        doc.due("the lowest that can be", Checks.wanted("#.", "##").fits(1, 0, 0), -11);
        doc.due("by rows", Checks.wanted("##", "#.").fits(1, 0, 0), -10 - 17);
        doc.due("v", Checks.wanted("#.", "##").fits(0, 1, 0), -10 - 17);
        doc.due("v", Checks.wanted(".#", "##").fits(0, 1, 0), -10 - 16);
        doc.due("d", Checks.wanted("#.", "##").fits(0, 0, 1), -10 - 16);
        doc.due("the first of two", Checks.wanted("#.#.", "####", "####", "####").fits(1, 0, 0), -12);
        // 1 is the first of its place; 2 is unlike it, though 1 is the cell that was changed
        doc.due("not the first of a place", Checks.wanted("#.##", "####", "####", "####").fits(1, 0, 0),
                -12);
        doc.due("hh", Checks.wanted("#.##", "####", "####", "####").fits(2, 0, 0), -11);
        PaperStars last = new PaperStars();
        last.want(15, 32767);
        doc.due("the last cell by h", last.fits(1, 0, 0), -265);
        doc.due("the last cell by v", last.fits(0, 1, 0), -265);
        doc.due("the last cell by all", last.fits(4, 4, 0), -265);
        doc.due("the last cell by d", last.fits(0, 0, 1), 1);
    }

    private void best(String name, PaperStars stars, int... answers) {
        for (int what = 0; what < answers.length; what++) {
            doc.due(name + ", bestFold " + what, stars.bestFold(what), answers[what]);
        }
    }

    private void bestFold() {
        doc.says("THE BEST FOLD: of those that FIT that of fewest places;");
        best("whole of 16", new PaperStars(), 4, 4, 0, 1, 0);
        best("whole of 2", Checks.sheet(2), 1, 1, 0, 1, 0);
        best("whole of 6", Checks.sheet(6), 1, 1, 1, 6, 0);
        best("whole of 12", Checks.sheet(12), 2, 2, 1, 6, 0);
        best("whole of 14", Checks.sheet(14), 1, 1, 1, 28, 0);
        best("bare of 2", Checks.wanted("..", ".."), 1, 1, 0, 1, 1);
        best("no fold", Checks.wanted("#.", "##"), 0, 0, 0, 4, 1);
        best("h", Checks.wanted("..", "##"), 1, 0, 0, 2, 1);
        best("v", Checks.wanted(".#", ".#"), 0, 1, 0, 2, 1);
        best("d", Checks.wanted("#.", ".#"), 0, 0, 1, 3, 1);
        best("d", Checks.wanted("#.", ".."), 0, 0, 1, 3, 2);
        best("hvd", Checks.wanted("#..#", ".##.", ".##.", "#..#"), 1, 1, 1, 3, 1);
        PaperStars big = new PaperStars();
        big.want(0, 65533);
        best("none of 16", big, 0, 0, 0, 256, 1);
        PaperStars bare = Checks.sheet(16);
        for (int y = 0; y < 16; y++) {
            bare.want(y, y == 3 ? 4 : 0);
        }
        best("all but one bare", bare, 0, 0, 0, 256, 255);
    }

    /** Whether a pattern fits, cell by cell with each other. */
    private static boolean fitsPlainly(int size, int pattern, int a, int b, int d) {
        for (int one = 0; one < size * size; one++) {
            for (int other = 0; other < one; other++) {
                if (placeOf(size, one, a, b, d) == placeOf(size, other, a, b, d)
                        && ((pattern >> one) & 1) != ((pattern >> other) & 1)) {
                    return false;
                }
            }
        }
        return true;
    }

    private static int placeOf(int size, int cell, int a, int b, int d) {
        int x = cell % size;
        int y = cell / size;
        int w = size;
        for (int i = 0; i < a; i++, w /= 2) {
            x = Math.min(x, w - 1 - x);
        }
        int h = size;
        for (int i = 0; i < b; i++, h /= 2) {
            y = Math.min(y, h - 1 - y);
        }
        return d == 1 ? 16 * Math.min(x, y) + Math.max(x, y) : 16 * y + x;
    }

    /** All patterns: there never are two best ones, and the one that there is is answered. */
    private void bestOfAllPatterns(int size) {
        doc.says("of like ones by the least a, then b, then d.");
        int most = Integer.numberOfTrailingZeros(size);
        for (int pattern = 0; pattern < 1 << size * size; pattern++) {
            int fewest = 999;
            int best = -1;
            int like = 0;
            for (int a = 0; a <= most; a++) {
                for (int b = 0; b <= most; b++) {
                    int w = size >> a;
                    int h = size >> b;
                    for (int d = 0; d <= (w == h && w > 1 ? 1 : 0); d++) {
                        int places = d == 1 ? w * (w + 1) / 2 : w * h;
                        if (places > fewest || !fitsPlainly(size, pattern, a, b, d)) {
                            continue;
                        }
                        like = places == fewest ? like + 1 : 0;
                        if (places < fewest) {
                            fewest = places;
                            best = 100 * a + 10 * b + d;
                        }
                    }
                }
            }
            PaperStars stars = Checks.sheet(size);
            for (int y = 0; y < size; y++) {
                stars.want(y, (pattern >> size * y) & ((1 << size) - 1));
            }
            doc.due(size + " pattern " + pattern, 100 * stars.bestFold(0)
                    + 10 * stars.bestFold(1) + stars.bestFold(2), best);
            doc.due(size + " places of " + pattern, stars.bestFold(3), fewest);
            doc.due(size + " like ones of " + pattern, like, 0);
        }
    }

    private void bestFoldNumbers() {
        doc.says("THE BEST FOLD, what 0 a, 1 b, 2 d, 3 places, 4 places without PAPER;"
                + " NONE for others.");
        PaperStars stars = Checks.wanted("#..#", ".##.", ".##.", "#..#");
        int[] answers = {-1, 1, 1, 1, 3, 1, -1};
        for (int i = 0; i < answers.length; i++) {
            doc.due("bestFold " + (i - 1), stars.bestFold(i - 1), answers[i]);
        }
        for (int what : new int[] {LEAST, -2, 6, 256, 65536, MOST}) {
            doc.due("bestFold " + what, stars.bestFold(what), -1);
        }
    }
}
