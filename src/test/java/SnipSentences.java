/** SNIPS, STRAIGHT and SCRAPS; promises 18 to 20. */
final class SnipSentences {
    private static final int LEAST = Integer.MIN_VALUE;
    private static final int MOST = Integer.MAX_VALUE;
    private static final int[] WILD = {LEAST, LEAST + 1, -65536, -256, -2, -1, 5, 6, 32, 256, 65536,
        65537, MOST};

    private final Doc doc;

    private SnipSentences(Doc doc) {
        this.doc = doc;
    }

    static void ask(Doc doc) {
        SnipSentences all = new SnipSentences(doc);
        all.snips();
        all.snipsBySlant();
        all.manyPlaces();
        all.noSnips();
        all.straight();
        all.straightEnds();
        all.noStraight();
        all.scraps();
        all.noScraps();
    }

    private void snips() {
        doc.says("SNIPS of a FOLD that FITS, of at most 64 places: the fewest r (both ends in the"
                + " WEDGE; places more than once are no harm), together on just all places without"
                + " PAPER: 0 to 4.");
        doc.says("SNIPS of FOLDS: how many;");
        doc.due("none", Checks.wanted("##", "##").snips(0, 0, 0), 0);
        doc.due("one place", Checks.wanted("##", "#.").snips(0, 0, 0), 1);
        doc.due("all places", Checks.wanted("..", "..").snips(0, 0, 0), 1);
        doc.due("by corners", Checks.wanted(".#", "#.").snips(0, 0, 0), 2);
        doc.due("round a corner", Checks.wanted("..", ".#").snips(0, 0, 0), 2);
        doc.due("a cross: places twice", Checks.wanted("#.##", "....", "#.##", "#.##").snips(0, 0, 0), 2);
        doc.due("three", Checks.wanted("####", ".###", "..##", "...#").snips(0, 0, 0), 3);
        doc.due("four", Checks.wanted(".#.#", "#.#.", "####", "####").snips(0, 0, 0), 4);
        doc.due("a ring", Checks.wanted("....", ".##.", ".##.", "....").snips(0, 0, 0), 4);
        doc.due("fewer by folds", Checks.wanted("....", ".##.", ".##.", "....").snips(1, 1, 0), 2);
        doc.due("one place of one", Checks.wanted("..", "..").snips(1, 1, 0), 1);
        doc.due("no place of one", Checks.wanted("##", "##").snips(1, 1, 0), 0);
        doc.says("-2: more than 4;");
        doc.due("five", Checks.wanted(".#.#", "#.#.", ".###", "####").snips(0, 0, 0), -2);
        doc.due("eight", Checks.wanted(".#.#", "#.#.", ".#.#", "#.#.").snips(0, 0, 0), -2);
        doc.due("most", Checks.sheet(8).snips(0, 0, 0), 0);
        PaperStars chess = Checks.cooked(8, ":c([x+y]%2=1)");
        chess.wantOpened();
        doc.due("chess of 8", chess.snips(0, 0, 0), -2);
        // a ring with a cell in its middle
        doc.due("a ring and one", Checks.wanted("......", ".####.", ".#.##.", ".####.", ".####.", "......")
                .snips(0, 0, 0), -2);
    }

    private void snipsBySlant() {
        doc.says("the fewest r (both ends in the WEDGE; places more than once are no harm),");
        doc.due("the whole corner is one", Checks.wanted("....", "....", "....", "....").snips(0, 0, 1), 1);
        doc.due("two on the slant", Checks.wanted("#.##", "..##", "##..", "##.#").snips(0, 0, 1), 2);
        doc.due("the slant alone", Checks.wanted(".###", "#.##", "##.#", "###.").snips(0, 0, 1), 4);
        doc.due("beside the slant", Checks.wanted("#.##", ".#.#", "#.#.", "##.#").snips(0, 0, 1), 3);
        // what is beside the wedge is no harm within a box
        doc.due("a box over the slant", Checks.wanted("#...", "....", "....", "....").snips(0, 0, 1), 1);
        doc.due("two over the slant", Checks.wanted("....", ".#..", "....", "....").snips(0, 0, 1), 2);
        doc.due("a corner of it", Checks.wanted("####", "#..#", "#..#", "####").snips(0, 0, 1), 1);
        doc.due("of 2", Checks.wanted("#.", "..").snips(0, 0, 1), 1);
        doc.due("of 2", Checks.wanted(".#", "#.").snips(0, 0, 1), 2);
        PaperStars five = Checks.cooked(10, "d:c(x=y&x%2=0)");
        five.wantOpened();
        doc.due("five on the slant", five.snips(0, 0, 1), -2);
        PaperStars four = Checks.cooked(10, "d:c(x=y&x%2=0&x<8)");
        four.wantOpened();
        doc.due("four on the slant", four.snips(0, 0, 1), 4);
    }

    private void manyPlaces() {
        doc.says("-4: more than 64 places (asked ahead of that);");
        int[][] allowed = {{8, 0, 0, 0}, {16, 1, 1, 0}, {16, 2, 0, 0}, {16, 0, 2, 0}, {10, 0, 0, 1},
            {12, 1, 1, 0}, {10, 1, 0, 0}, {14, 1, 1, 0}, {16, 1, 1, 1}, {8, 0, 0, 1}};
        int[][] tooMany = {{12, 1, 0, 0}, {12, 0, 1, 0}, {12, 0, 0, 1}, {14, 1, 0, 0}, {10, 0, 0, 0},
            {16, 1, 0, 0}, {16, 0, 1, 0}, {16, 0, 0, 0}, {16, 0, 0, 1}, {14, 0, 0, 1}};
        for (int[] by : allowed) {
            String name = by[0] + " by " + by[1] + " " + by[2] + " " + by[3];
            doc.due(name, Checks.sheet(by[0]).snips(by[1], by[2], by[3]), 0);
            PaperStars bare = Checks.sheet(by[0]);
            for (int y = 0; y < by[0]; y++) {
                bare.want(y, 0);
            }
            doc.due(name + ", all bare", bare.snips(by[1], by[2], by[3]), 1);
        }
        for (int[] by : tooMany) {
            String name = by[0] + " by " + by[1] + " " + by[2] + " " + by[3];
            doc.due(name, Checks.sheet(by[0]).snips(by[1], by[2], by[3]), -4);
            PaperStars odd = Checks.sheet(by[0]);
            odd.want(0, 2);
            odd.want(2, 1);
            odd.want(3, 4);
            doc.due(name + ", asked ahead of a pattern that fits no fold",
                    odd.snips(by[1], by[2], by[3]), -4);
        }
        // the 64th place is asked, too
        PaperStars last = Checks.sheet(8);
        last.want(7, 127);
        doc.due("the last of 64", last.snips(0, 0, 0), 1);
        last.want(0, 254);
        doc.due("the first and the last of 64", last.snips(0, 0, 0), 2);
        last.want(7, 126);
        last.want(0, 126);
        doc.due("the corners of 64", last.snips(0, 0, 0), 4);
        last.want(3, 247);
        doc.due("the corners and one", last.snips(0, 0, 0), -2);
    }

    private void noSnips() {
        doc.says("-3: they do not FIT;");
        PaperStars stars = Checks.wanted("#.##", "####", "####", "####");
        doc.due("h", stars.snips(1, 0, 0), -3);
        doc.due("v", stars.snips(0, 1, 0), -3);
        doc.due("d", stars.snips(0, 0, 1), -3);
        doc.due("all", stars.snips(2, 2, 0), -3);
        PaperStars big = new PaperStars();
        big.want(0, 2);
        doc.due("64 places", big.snips(1, 1, 0), -3);
        doc.says("NONE: they can't be.");
        doc.due("a 3 of 4", stars.snips(3, 0, 0), -1);
        doc.due("b 3 of 4", stars.snips(0, 3, 0), -1);
        doc.due("W not H", stars.snips(1, 0, 1), -1);
        doc.due("one place", stars.snips(2, 2, 1), -1);
        doc.due("d 2", stars.snips(0, 0, 2), -1);
        doc.due("a 5 of 16", big.snips(5, 0, 0), -1);
        doc.due("a 4 of 16", big.snips(4, 0, 0), -3);
        doc.due("asked ahead of the places", big.snips(0, 1, 1), -1);
        for (int wild : WILD) {
            doc.due("a " + wild, stars.snips(wild, 0, 0), -1);
            doc.due("b " + wild, stars.snips(0, wild, 0), -1);
            doc.due("d " + wild, stars.snips(0, 0, wild), -1);
        }
    }

    private void line(String name, PaperStars stars, int[] by, int... line) {
        for (int what = 0; what < 3; what++) {
            doc.due(name + ", straight " + what, stars.straight(by[0], by[1], by[2], what),
                    line[what]);
        }
    }

    private void straight() {
        doc.says("STRAIGHT: whether places without PAPER are just those with p x and q y together"
                + " above c (p, q -3 to 3, not both 0; c -60 to 60), some being there and not all:"
                + " the first p, then q, then c.");
        doc.says("STRAIGHT by FOLDS, what 0 p, 1 q, 2 c;");
        int[] none = {0, 0, 0};
        line("the first column", Checks.wanted(".#", ".#"), none, -3, -2, -3);
        line("the first place", Checks.wanted(".#", "##"), none, -3, -3, -3);
        line("the last place", Checks.wanted("##", "#."), none, 1, 1, 1);
        line("all but the last", Checks.wanted("..", ".#"), none, -3, -3, -6);
        line("all but the first", Checks.wanted("#.", ".."), none, 1, 1, 0);
        line("the last row", Checks.wanted("##", ".."), none, -2, 3, 0);
        line("by h", Checks.wanted(".##.", ".##.", ".##.", ".##."), new int[] {1, 0, 0}, -3, 0, -3);
        line("by d", Checks.wanted("##", "#."), new int[] {0, 0, 1}, -2, 3, 0);
        for (int size = 2; size <= 4; size += 2) {
            allLines(size);
        }
    }

    /** Patterns of a line, and others, against trying all p, q and c in their order. */
    private void allLines(int size) {
        for (int p = -4; p <= 4; p++) {
            for (int q = -4; q <= 4; q++) {
                for (int c = -13; c <= 13; c += size == 2 ? 1 : 3) {
                    int pattern = 0;
                    for (int cell = 0; cell < size * size; cell++) {
                        if (p * (cell % size) + q * (cell / size) <= c) {
                            pattern |= 1 << cell;
                        }
                    }
                    PaperStars stars = Checks.sheet(size);
                    for (int y = 0; y < size; y++) {
                        stars.want(y, (pattern >> size * y) & ((1 << size) - 1));
                    }
                    line(size + " by " + p + " " + q + " " + c, stars, new int[] {0, 0, 0},
                            firstLine(size, pattern));
                }
            }
        }
    }

    private static int[] firstLine(int size, int pattern) {
        int all = (1 << size * size) - 1;
        for (int p = -3; p <= 3; p++) {
            for (int q = -3; q <= 3; q++) {
                for (int c = -60; c <= 60; c++) {
                    int paper = 0;
                    for (int cell = 0; cell < size * size; cell++) {
                        paper |= p * (cell % size) + q * (cell / size) > c ? 0 : 1 << cell;
                    }
                    if ((p != 0 || q != 0) && paper == pattern && paper != 0 && paper != all) {
                        return new int[] {p, q, c};
                    }
                }
            }
        }
        return new int[] {-1000, -1000, -1000};
    }

    /** A sheet of 16 that wants no paper where p x and q y together are above c. */
    private static PaperStars above(int p, int q, int c) {
        PaperStars stars = new PaperStars();
        for (int y = 0; y < 16; y++) {
            int row = 0;
            for (int x = 0; x < 16; x++) {
                row |= p * x + q * y > c ? 0 : 1 << x;
            }
            stars.want(y, row);
        }
        return stars;
    }

    private void straightEnds() {
        doc.says("STRAIGHT: whether places without PAPER are just those with p x and q y together"
                + " above c (p, q -3 to 3, not both 0; c -60 to 60), some being there and not all:"
                + " the first p, then q, then c.");
        int[] none = {0, 0, 0};
        int[] nothing = {-1000, -1000, -1000};
        line("c 60", above(2, 3, 60), none, 2, 3, 60);
        line("c 61", above(2, 3, 61), none, nothing);
        line("c -60", above(-3, -2, -60), none, -3, -2, -60);
        line("c -61", above(-3, -2, -61), none, nothing);
        line("p -3", above(-3, 1, -20), none, -3, 1, -20);
        line("p -4", above(-4, 1, -20), none, nothing);
        line("p 3", above(3, 1, 20), none, 3, 1, 20);
        line("p 4", above(4, 1, 20), none, nothing);
        line("q -3", above(1, -3, -20), none, 1, -3, -20);
        line("q -4", above(1, -4, -20), none, nothing);
        line("q 3", above(1, 3, 20), none, 1, 3, 20);
        line("q 4", above(1, 4, 20), none, nothing);
        line("p 0", above(0, 1, 7), none, 0, 1, 7);
        line("q 0", above(1, 0, 7), none, 1, 0, 7);
    }

    private void noStraight() {
        doc.says("-1000: there is none, they do not FIT, no such ones.");
        PaperStars stars = Checks.wanted("#..#", "####", "####", "####");
        for (int what = 0; what <= 2; what++) {
            doc.due("there is none", stars.straight(0, 0, 0, what), -1000);
            doc.due("they do not fit", stars.straight(0, 1, 0, what), -1000);
            doc.due("no such a", stars.straight(3, 0, 0, what), -1000);
            doc.due("none is bare", Checks.sheet(4).straight(0, 0, 0, what), -1000);
            doc.due("all are bare", Checks.wanted("..", "..").straight(0, 0, 0, what), -1000);
            doc.due("all are bare by folds", Checks.wanted("..", "..").straight(1, 1, 0, what), -1000);
            doc.due("two corners", Checks.wanted(".#", "#.").straight(0, 0, 0, what), -1000);
        }
        doc.due("it is by h", stars.straight(1, 0, 0, 0), 1);
        doc.due("what -1", stars.straight(1, 0, 0, -1), -1000);
        doc.due("what 3", stars.straight(1, 0, 0, 3), -1000);
        for (int wild : WILD) {
            doc.due("a " + wild, stars.straight(wild, 0, 0, 0), -1000);
            doc.due("b " + wild, stars.straight(1, wild, 0, 0), -1000);
            doc.due("d " + wild, stars.straight(1, 0, wild, 0), -1000);
            doc.due("what " + wild, stars.straight(1, 0, 0, wild), -1000);
        }
    }

    private void scraps() {
        doc.says("SCRAPS: FOLDS that FIT with just so many places without PAPER.");
        doc.says("SCRAPS of so many places (0 to 256), what NONE how many FOLDS, else a, b, d of"
                + " the what-th (0 on; by a, then b, then d) as 100 a, 10 b and d;");
        PaperStars whole = new PaperStars();
        doc.due("0 of 16", whole.scraps(0, -1), 29);
        int found = 0;
        for (int a = 0; a <= 4; a++) {
            for (int b = 0; b <= 4; b++) {
                for (int d = 0; d <= (a == b && a < 4 ? 1 : 0); d++) {
                    doc.due("0 of 16, " + found, whole.scraps(0, found), 100 * a + 10 * b + d);
                    found++;
                }
            }
        }
        doc.due("0 of 16, behind the last", whole.scraps(0, found), -2);
        doc.due("1 of 16", whole.scraps(1, -1), 0);
        PaperStars bare = new PaperStars();
        for (int y = 0; y < 16; y++) {
            bare.want(y, 0);
        }
        doc.due("256 of 16", bare.scraps(256, -1), 1);
        doc.due("256 of 16", bare.scraps(256, 0), 0);
        doc.due("256 of 16, behind the last", bare.scraps(256, 1), -2);
        doc.due("255 of 16", bare.scraps(255, -1), 0);
        doc.due("136 of 16", bare.scraps(136, 0), 1);
        doc.due("128 of 16", bare.scraps(128, -1), 2);
        doc.due("128 of 16", bare.scraps(128, 0), 10);
        doc.due("128 of 16", bare.scraps(128, 1), 100);
        doc.due("1 of 16", bare.scraps(1, -1), 1);
        doc.due("1 of 16", bare.scraps(1, 0), 440);
        doc.due("3 of 16", bare.scraps(3, 0), 331);
        doc.due("0 of 16", bare.scraps(0, -1), 0);
        PaperStars six = Checks.sheet(6);
        doc.due("0 of 6", six.scraps(0, -1), 6);
        doc.due("0 of 6, the last", six.scraps(0, 5), 111);
        PaperStars corner = Checks.wanted(".#", "##");
        doc.due("only what fits", corner.scraps(1, -1), 2);
        doc.due("only what fits", corner.scraps(1, 1), 1);
    }

    private void noScraps() {
        PaperStars stars = Checks.wanted("#..#", "####", "####", "#..#");
        doc.says("-2: there is none such;");
        doc.due("of 1, 0", stars.scraps(1, 0), 110);
        doc.due("of 1, 1", stars.scraps(1, 1), -2);
        doc.due("of 3, 0", stars.scraps(3, 0), -2);
        doc.due("of 256, 0", stars.scraps(256, 0), -2);
        doc.due("of 1, most", stars.scraps(1, MOST), -2);
        doc.due("of 1, 65536", stars.scraps(1, 65536), -2);
        doc.due("of 3, how many", stars.scraps(3, -1), 0);
        doc.says("-3: no such ones.");
        doc.due("of -1", stars.scraps(-1, -1), -3);
        doc.due("of -1", stars.scraps(-1, 0), -3);
        doc.due("of 257", stars.scraps(257, -1), -3);
        doc.due("of 257", stars.scraps(257, 0), -3);
        doc.due("what -2", stars.scraps(1, -2), -3);
        doc.due("what -2, none", stars.scraps(3, -2), -3);
        for (int wild : new int[] {LEAST, LEAST + 1, -65536, -257, 258, 512, 65536, 65537, MOST}) {
            doc.due("of " + wild, stars.scraps(wild, -1), -3);
            doc.due("of " + wild, stars.scraps(wild, 0), -3);
            doc.due("what " + wild, stars.scraps(1, Math.min(-2, wild)), -3);
        }
    }
}
