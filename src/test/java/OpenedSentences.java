/** What is OPENED, its PIECES, HOLES, EDGE, THREADS, DEER and HANG; promises 7 to 12. */
final class OpenedSentences {
    private static final int LEAST = Integer.MIN_VALUE;
    private static final int MOST = Integer.MAX_VALUE;

    private final Doc doc;

    private OpenedSentences(Doc doc) {
        this.doc = doc;
    }

    static void ask(Doc doc) {
        OpenedSentences all = new OpenedSentences(doc);
        all.snipped();
        all.paper();
        all.pieces();
        all.mainAndFallen();
        all.holes();
        all.edge();
        all.threads();
        all.sums();
        all.piece();
        all.deer();
        all.hang();
        all.hangWithDeer();
        all.winding();
    }

    /** A sheet that is cut where the rows have no #. */
    private static PaperStars shaped(String... rows) {
        PaperStars stars = Checks.sheet(rows.length);
        StringBuilder text = new StringBuilder();
        for (int y = 0; y < rows.length; y++) {
            for (int x = 0; x < rows.length; x++) {
                int end = x;
                while (end < rows.length && rows[y].charAt(end) == '.') {
                    end++;
                }
                if (end > x) {
                    text.append(text.length() == 0 ? ":r" : ";r").append(x).append(',').append(y);
                    text.append('-').append(end - 1).append(',').append(y);
                    x = end;
                }
            }
        }
        if (text.length() > 0 && Checks.cook(stars, text.toString()) < 1) {
            throw new IllegalStateException(text.toString());
        }
        return stars;
    }

    private void snipped() {
        doc.says("Whether a place is cut (1, 0); NONE: it is not in the WEDGE.");
        PaperStars stars = Checks.cooked(16, "hhv:s0,0;s3,7");
        int[][] places = {{0, 0, 1}, {3, 7, 1}, {3, 0, 0}, {0, 7, 0}, {1, 1, 0}, {4, 0, -1},
            {0, 8, -1}, {-1, 0, -1}, {0, -1, -1}, {4, 7, -1}, {3, 8, -1}, {16, 0, -1}, {0, 16, -1},
            {256, 0, -1}, {0, 65536, -1}, {LEAST, 0, -1}, {0, LEAST, -1}, {MOST, 0, -1},
            {0, MOST, -1}};
        for (int[] place : places) {
            doc.due("snipped " + place[0] + " " + place[1], stars.snipped(place[0], place[1]),
                    place[2]);
        }
        PaperStars slant = Checks.cooked(8, "d:c(1=1)");
        doc.due("on the slant", slant.snipped(7, 7), 1);
        doc.due("beyond it", slant.snipped(6, 7), -1);
        doc.due("no recipe", new PaperStars().snipped(15, 15), 0);
        doc.due("no recipe, beyond", new PaperStars().snipped(15, 16), -1);
    }

    private void paper() {
        doc.says("OPENED: PAPER is a CELL whose place no SNIP has ");
        PaperStars stars = Checks.cooked(4, "h:s0,1;s0,1;c(x=1&y=3)");
        int[] rows = {15, 6, 15, 9};
        for (int y = 0; y < 4; y++) {
            for (int x = 0; x < 4; x++) {
                doc.due("opened " + x + " " + y, stars.opened(x, y), (rows[y] >> x) & 1);
            }
        }
        // a place that two snips have is cut all the same
        doc.due("s and c", Checks.cooked(4, ":s0,0;c(x=0)").wedge(3), 4);
        doc.due("c and c", Checks.cooked(4, ":c(x=0);c(y=0)").wedge(3), 7);
        doc.due("c and s", Checks.cooked(4, ":c(x=0);s0,0").wedge(3), 4);
        doc.due("r and r", Checks.cooked(4, ":r0,0-2,2;r1,1-3,3").wedge(3), 14);
        doc.due("all cut", Checks.cooked(16, ":c(1=1)").sums(0), 0);
        doc.due("none cut", Checks.cooked(16, ":c(1=2)").sums(0), 256);
        doc.due("all cut by one place", Checks.cooked(16, "hhhhvvvv:s0,0").sums(0), 0);
        doc.says("(SIZE as it is when the RECIPE was told; another SIZE: no RECIPE any more).");
        stars.sheet(8);
        doc.due("another size, snips", stars.count(1), 0);
        doc.due("another size, folds", stars.count(2), 0);
        doc.due("another size, paper", stars.sums(0), 64);
        doc.due("another size, nothing is cut", stars.snipped(0, 1), 0);
        stars.sheet(4);
        doc.due("the first size again", stars.sums(0), 16);
        doc.says("Whether a CELL has PAPER, OPENED (1, 0); NONE: no such CELL.");
        PaperStars small = Checks.cooked(4, "hv:s0,0");
        int[][] cells = {{0, 0, 0}, {3, 3, 0}, {3, 0, 0}, {1, 0, 1}, {3, 2, 1}, {4, 0, -1}, {0, 4, -1},
            {-1, 0, -1}, {0, -1, -1}, {3, 4, -1}, {4, 3, -1}, {16, 0, -1}, {0, 16, -1}, {LEAST, 0, -1},
            {0, LEAST, -1}, {MOST, 0, -1}, {0, MOST, -1}, {256, 0, -1}, {0, 256, -1}};
        for (int[] cell : cells) {
            doc.due("opened " + cell[0] + " " + cell[1], small.opened(cell[0], cell[1]), cell[2]);
        }
    }

    private void sums(String name, PaperStars stars, int what, int want) {
        doc.due(name + ", sums " + what, stars.sums(what), want);
    }

    private void pieces() {
        doc.says("Of what is OPENED: PIECES: CELLS of PAPER that hang together by their sides;");
        sums("whole", new PaperStars(), 1, 1);
        sums("nothing", Checks.cooked(16, ":c(1=1)"), 1, 0);
        sums("one cell", Checks.cooked(16, ":c(x+y>0)"), 1, 1);
        sums("by corners", shaped("#.", ".#"), 1, 2);
        sums("by corners", shaped(".#", "#."), 1, 2);
        sums("by sides", shaped("##", ".#"), 1, 1);
        sums("most", Checks.cooked(16, ":c([x+y]%2=1)"), 1, 128);
        // the last cell of a row and the first of the next are no neighbours
        sums("ends of rows", Checks.cooked(16, ":c(!(x=15&y=3|x=0&y=4))"), 1, 2);
        sums("ends of rows", shaped("...#", "#...", "....", "...."), 1, 2);
    }

    private void mainAndFallen() {
        doc.says("THE MAIN one has most CELLS (of like ones that with the lowest CELL);"
                + " FALLEN are CELLS of the others.");
        PaperStars like = shaped("##.#", "...#", "##.#", "##..");
        sums("most", like, 2, 4);
        sums("fallen", like, 3, 5);
        doc.due("the first is fallen", like.piece(0, 0, 3), 1);
        doc.due("the second is fallen", like.piece(3, 0, 3), 1);
        doc.due("the third is the main one", like.piece(0, 2, 3), 0);
        PaperStars two = shaped("#.#.", "#.#.", "#.#.", "#.#.");
        doc.due("of like ones the lowest", two.piece(0, 3, 3), 0);
        doc.due("of like ones the other", two.piece(2, 0, 3), 1);
        sums("of like ones", two, 2, 4);
        sums("of like ones", two, 3, 4);
        // 3, 0 is lower than 0, 1 by its number
        PaperStars lower = shaped("...#", "#..#", "#...", "....");
        doc.due("the lowest by its number", lower.piece(3, 0, 3), 0);
        doc.due("the other", lower.piece(0, 1, 3), 1);
        PaperStars none = Checks.cooked(4, ":c(1=1)");
        sums("nothing", none, 2, 0);
        sums("nothing", none, 3, 0);
        sums("whole", new PaperStars(), 2, 256);
        sums("whole", new PaperStars(), 3, 0);
        PaperStars chess = Checks.cooked(16, ":c([x+y]%2=1)");
        sums("chess", chess, 2, 1);
        sums("chess", chess, 3, 127);
        doc.due("chess, the lowest", chess.piece(0, 0, 3), 0);
        doc.due("chess, the next", chess.piece(2, 0, 3), 1);
    }

    private void holes() {
        doc.says("HOLES: CELLS without PAPER that hang together so,"
                + " none of them at the SHEET's border.");
        sums("whole", new PaperStars(), 4, 0);
        sums("all bare", Checks.cooked(16, ":c(1=1)"), 4, 0);
        sums("of 2 all are at the border", shaped(".#", "#."), 4, 0);
        sums("smallest", shaped("####", "#.##", "####", "####"), 4, 1);
        sums("all but the border", Checks.cooked(16, ":r1,1-14,14"), 4, 1);
        sums("at the top", Checks.cooked(16, ":r5,0-5,9"), 4, 0);
        sums("not at the top", Checks.cooked(16, ":r5,1-5,9"), 4, 1);
        sums("at the left", Checks.cooked(16, ":r0,5-9,5"), 4, 0);
        sums("not at the left", Checks.cooked(16, ":r1,5-9,5"), 4, 1);
        sums("at the right", Checks.cooked(16, ":r7,5-15,5"), 4, 0);
        sums("not at the right", Checks.cooked(16, ":r7,5-14,5"), 4, 1);
        sums("at the foot", Checks.cooked(16, ":r5,7-5,15"), 4, 0);
        sums("not at the foot", Checks.cooked(16, ":r5,7-5,14"), 4, 1);
        sums("of 6 at the right", Checks.cooked(6, ":r3,3-5,3"), 4, 0);
        sums("of 6 not at the right", Checks.cooked(6, ":r3,3-4,3"), 4, 1);
        sums("of 6 at the foot", Checks.cooked(6, ":r3,3-3,5"), 4, 0);
        sums("by a corner to the border", shaped(".###", "#.##", "####", "####"), 4, 1);
        sums("by corners", shaped("####", "#.##", "##.#", "####"), 4, 2);
        sums("by sides", shaped("####", "#..#", "##.#", "####"), 4, 1);
        sums("a hole round a piece", Checks.cooked(16, ":c(x>2&x<8&y>2&y<8&!(x=5&y=5))"), 4, 1);
        sums("a hole in a piece in a hole",
                Checks.cooked(16, ":c((x=2|x=12)&y>1&y<13|(y=2|y=12)&x>1&x<13|x=7&y=7)"), 4, 2);
        // every second cell of 14 by 14 by corners
        sums("most", Checks.cooked(16, ":c([x+y]%2=1&x>0&y>0&x<15&y<15)"), 4, 98);
    }

    private void edge() {
        doc.says("EDGE: sides between a CELL with PAPER and one without, or the SHEET's border.");
        for (int size = 2; size <= 16; size += 2) {
            sums("whole of " + size, Checks.sheet(size), 5, 4 * size);
        }
        sums("nothing", Checks.cooked(16, ":c(1=1)"), 5, 0);
        sums("one cell in a corner", Checks.cooked(16, ":c(x+y>0)"), 5, 4);
        sums("one cell in the last corner", Checks.cooked(16, ":c(x+y<30)"), 5, 4);
        sums("one hole", Checks.cooked(16, ":s5,5"), 5, 68);
        sums("a corner less", Checks.cooked(16, ":s15,15"), 5, 64);
        sums("a cell of the border less", Checks.cooked(16, ":s7,15"), 5, 66);
        sums("a cell of the border less", Checks.cooked(16, ":s15,7"), 5, 66);
        sums("most", Checks.cooked(16, ":c([x+y]%2=1)"), 5, 512);
        sums("two cells", Checks.cooked(16, ":c(!(x=15&y=3|x=0&y=4))"), 5, 8);
        sums("rows", Checks.cooked(16, ":c(y%2=1)"), 5, 8 * 34);
    }

    private void threads() {
        doc.says("THREADS: CELLS of PAPER without which the rest of their PIECE would be"
                + " two PIECES or more.");
        sums("whole", new PaperStars(), 6, 0);
        sums("nothing", Checks.cooked(16, ":c(1=1)"), 6, 0);
        sums("one cell", Checks.cooked(16, ":c(x+y>0)"), 6, 0);
        sums("two cells", Checks.cooked(16, ":c(y>0|x>1)"), 6, 0);
        sums("three cells", Checks.cooked(16, ":c(y>0|x>2)"), 6, 1);
        sums("three cells round a corner", shaped("##", ".#"), 6, 1);
        sums("a square", shaped("##..", "##..", "....", "...."), 6, 0);
        sums("a row", Checks.cooked(16, ":c(y>0)"), 6, 14);
        sums("a ring", shaped("####", "#..#", "#..#", "####"), 6, 0);
        sums("three pieces would be left", shaped(".#..", "###.", "....", "...."), 6, 1);
        sums("four pieces would be left", shaped(".#..", "###.", ".#..", "...."), 6, 1);
        sums("two pieces with threads each", shaped("###.", "....", "###.", "...."), 6, 2);
        PaperStars four = shaped(".#..", "###.", ".#..", "....");
        doc.due("the middle", four.piece(1, 1, 2), 1);
        doc.due("an end", four.piece(1, 0, 2), 0);
        // a winding line of 16 rows: all but its two ends
        sums("most", Checks.cooked(16, ":c(y%4=1&x<15|y%4=3&x>0)"), 6, 8 * 16 + 8 - 2);
        PaperStars root = shaped("..#.", ".###", "....", "....");
        doc.due("the lowest is none", root.piece(2, 0, 2), 0);
        PaperStars corner = shaped("##", "#.");
        doc.due("the lowest is one", corner.piece(0, 0, 2), 1);
        sums("the lowest alone is one", corner, 6, 1);
        // large pieces that hang by one cell near the lowest or the last
        sums("255 cells", Checks.cooked(16, ":s1,0"), 6, 1);
        doc.due("near the lowest", Checks.cooked(16, ":s1,0").piece(0, 1, 2), 1);
        sums("255 cells", Checks.cooked(16, ":s15,14"), 6, 1);
        doc.due("near the last", Checks.cooked(16, ":s15,14").piece(14, 15, 2), 1);
        PaperStars bridge = shaped("#.##", "####", "#.##", "....");
        doc.due("a bridge", bridge.piece(1, 1, 2), 1);
        doc.due("beside it", bridge.piece(0, 1, 2), 1);
        doc.due("beside it", bridge.piece(2, 1, 2), 1);
        doc.due("behind it", bridge.piece(3, 1, 2), 0);
    }

    private void sums() {
        doc.says("Of what is OPENED, what 0 CELLS with PAPER, 1 PIECES, 2 CELLS of THE MAIN one,"
                + " 3 FALLEN, 4 HOLES, 5 EDGE, 6 THREADS; NONE for others.");
        PaperStars stars = shaped("###.", "#.#.", "####", "...#");
        int[] answers = {-1, 10, 1, 10, 0, 1, 20, 2, -1};
        for (int i = 0; i < answers.length; i++) {
            sums("ring and tail", stars, i - 1, answers[i]);
        }
        for (int what : new int[] {LEAST, -2, 8, 9, 256, 65536, MOST}) {
            sums("others", stars, what, -1);
        }
    }

    private void piece() {
        doc.says("Of a CELL, what 0 the lowest CELL of its PIECE, 1 how many CELLS that has,"
                + " 2 whether it is a THREAD (1, 0), 3 whether it is FALLEN (1, 0);");
        PaperStars stars = shaped("#.##", "#..#", "..##", ".###");
        int[][] asked = {{0, 0, 0, 2, 0, 1}, {0, 1, 0, 2, 0, 1}, {2, 0, 2, 8, 0, 0},
            {3, 0, 2, 8, 1, 0}, {3, 1, 2, 8, 1, 0}, {1, 3, 2, 8, 0, 0}, {2, 3, 2, 8, 1, 0},
            {3, 3, 2, 8, 0, 0}};
        for (int[] one : asked) {
            for (int what = 0; what <= 3; what++) {
                doc.due("piece " + one[0] + " " + one[1] + " " + what,
                        stars.piece(one[0], one[1], what), one[2 + what]);
            }
        }
        PaperStars last = Checks.cooked(16, ":c(!(x=15&y=15))");
        doc.due("the last cell", last.piece(15, 15, 0), 255);
        doc.due("the last cell", last.piece(15, 15, 1), 1);
        doc.due("the whole", new PaperStars().piece(15, 15, 0), 0);
        doc.due("the whole", new PaperStars().piece(15, 15, 1), 256);
        doc.says("-2: it has no PAPER;");
        for (int what = 0; what <= 3; what++) {
            doc.due("no paper " + what, stars.piece(1, 0, what), -2);
        }
        doc.says("NONE: no such ones.");
        int[][] wrong = {{4, 0, 0}, {0, 4, 0}, {-1, 0, 0}, {0, -1, 0}, {16, 0, 0}, {0, 16, 0},
            {0, 0, -1}, {0, 0, 4}, {0, 0, 256}, {LEAST, 0, 0}, {0, LEAST, 0}, {0, 0, LEAST},
            {MOST, 0, 0}, {0, MOST, 0}, {0, 0, MOST}, {256, 0, 0}, {0, 65536, 0}};
        for (int[] one : wrong) {
            doc.due("piece " + one[0] + " " + one[1] + " " + one[2],
                    stars.piece(one[0], one[1], one[2]), -1);
        }
    }

    private void deer() {
        doc.says("DEER, or no more: true; false: no such CELL, it is so.");
        for (int size = 2; size <= 16; size += 2) {
            PaperStars stars = Checks.sheet(size);
            int last = size - 1;
            for (int[] cell : new int[][] {{0, 0}, {last, 0}, {0, last}, {last, last}}) {
                String name = size + " deer " + cell[0] + " " + cell[1];
                doc.due(name + " no more, it is so", stars.deer(cell[0], cell[1], false), false);
                doc.due(name, stars.deer(cell[0], cell[1], true), true);
                doc.due(name + " it is so", stars.deer(cell[0], cell[1], true), false);
            }
            doc.due(size + " four", stars.count(5), 4);
            for (int[] cell : new int[][] {{size, 0}, {0, size}, {size, size}, {-1, 0}, {0, -1},
                {LEAST, 0}, {0, LEAST}, {MOST, 0}, {0, MOST}, {256, 0}, {0, 256}}) {
                String name = size + " deer " + cell[0] + " " + cell[1];
                doc.due(name, stars.deer(cell[0], cell[1], true), false);
                doc.due(name + " no more", stars.deer(cell[0], cell[1], false), false);
            }
            doc.due(size + " still four", stars.count(5), 4);
            doc.due(size + " no more", stars.deer(last, last, false), true);
            doc.due(size + " no more, it is so", stars.deer(last, last, false), false);
            doc.due(size + " three", stars.count(5), 3);
        }
        PaperStars full = new PaperStars();
        for (int cell = 0; cell < 256; cell++) {
            full.deer(cell % 16, cell / 16, true);
        }
        doc.due("all cells", full.count(5), 256);
        doc.due("one more", full.deer(0, 0, true), false);
    }

    private void hang(String name, PaperStars stars, int want) {
        doc.due(name + ", hang", stars.hang(), want);
    }

    private void hang() {
        doc.says("HANG: fewest CELLS that get PAPER, no DEER, so that there is one PIECE"
                + " (for 2 to 6 PIECES).");
        hang("two", shaped("#.#.", "....", "....", "...."), 1);
        hang("two, by corners", shaped("#...", ".#..", "....", "...."), 1);
        hang("two, of 2", shaped("#.", ".#"), 1);
        hang("two, farthest", Checks.cooked(16, ":c(x+y>0&x+y<30)"), 29);
        hang("three round one", shaped(".#..", "#.#.", "....", "...."), 1);
        hang("four round one", shaped(".#..", "#.#.", ".#..", "...."), 1);
        hang("four corners", shaped("#..#", "....", "....", "#..#"), 6);
        // where the ways meet: in the first row, the first column, the last cell
        hang("first row", Checks.cooked(16, ":c(!(y=0&x%6=0&x<7|x=3&y=6))"), 10);
        hang("first column", Checks.cooked(16, ":c(!(x=0&y%6=0&y<7|y=3&x=6))"), 10);
        hang("last row", Checks.cooked(8, ":c(!(y=7&(x=1|x=7)|x=4&y=1))"), 10);
        hang("last cell", Checks.cooked(16, ":c(!(x=15&y=0|x=0&y=15|x=15&y=15))"), 28);
        hang("first cell", Checks.cooked(16, ":c(!(x=15&y=0|x=0&y=15|x=0&y=0))"), 28);
        hang("six rows", Checks.cooked(12, ":c(y%2=1)"), 5);
        hang("six columns", Checks.cooked(12, ":c(x%2=1)"), 5);
        hang("six, farthest", Checks.cooked(16, ":c(x%15>0|y%15>0&!y=7)"), 14 + 2 * 13);
        doc.says("HANG: CELLS (0: one PIECE or none);");
        hang("whole", new PaperStars(), 0);
        hang("nothing", Checks.cooked(16, ":c(1=1)"), 0);
        hang("one cell", Checks.cooked(16, ":c(x+y>0)"), 0);
        hang("one with a hole", Checks.cooked(16, ":s3,3"), 0);
        doc.says("-3: more than 6 PIECES.");
        hang("seven", Checks.cooked(14, ":c(y%2=1)"), -3);
        hang("eight", Checks.cooked(16, ":c(y%2=1)"), -3);
        hang("most", Checks.cooked(16, ":c([x+y]%2=1)"), -3);
        hang("six", shaped("#.#.#.", "......", "#.#.#.", "......", "......", "......"), 5);
        hang("seven", shaped("#.#.#.", "......", "#.#.#.", "......", "#.....", "......"), -3);
        PaperStars seven = Checks.cooked(14, ":c(y%2=1)");
        for (int x = 0; x < 14; x++) {
            seven.deer(x, 1, true);
        }
        hang("seven that can't be", seven, -3);
    }

    /** Deer on all cells that are marked, and one way between two cells of paper. */
    private void way(int want, String... rows) {
        StringBuilder bare = new StringBuilder(":c(!(");
        for (int cell = 0; cell < rows.length * rows.length; cell++) {
            int x = cell % rows.length;
            int y = cell / rows.length;
            if (rows[y].charAt(x) == '#') {
                bare.append("x=").append(x).append("&y=").append(y).append('|');
            }
        }
        bare.setLength(bare.length() - 1);
        PaperStars stars = Checks.cooked(rows.length, bare.append("))").toString());
        for (int cell = 0; cell < rows.length * rows.length; cell++) {
            int x = cell % rows.length;
            int y = cell / rows.length;
            if (rows[y].charAt(x) == 'd') {
                stars.deer(x, y, true);
            }
        }
        hang("a way of " + want, stars, want);
    }

    /** Ways that go along each border in each direction, and one that winds. */
    private void winding() {
        doc.says("HANG: fewest CELLS that get PAPER, no DEER, so that there is one PIECE"
                + " (for 2 to 6 PIECES).");
        way(5, "ddd#", "ddd.", "ddd.", "#...");
        way(5, "#...", "ddd.", "ddd.", "ddd#");
        way(5, "#ddd", ".ddd", ".ddd", "...#");
        way(6, "dd#d", "#d.d", ".d.d", "...d");
        way(6, "d#dd", "d.d#", "d.d.", "d...");
        way(6, "d...", "#.d.", "dd#.", "dddd");
        way(33, "#.......", "ddddddd.", "........", ".ddddddd", "........", "ddddddd.",
                "#.......", "dddddddd");
        way(29, "#.......", "ddddddd.", "d.....d.", "d.ddd.d.", "d.dd#.d.", "d.ddddd.", "d.......",
                "dddddddd");
        String[] rows = new String[16];
        String[] columns = new String[16];
        for (int y = 0; y < 16; y++) {
            StringBuilder row = new StringBuilder();
            StringBuilder column = new StringBuilder();
            for (int x = 0; x < 16; x++) {
                row.append(x == 0 && y % 14 == 0 ? '#' : isOpen(x, y) ? '.' : 'd');
                column.append(y == 0 && x % 14 == 0 ? '#' : isOpen(y, x) ? '.' : 'd');
            }
            rows[y] = row.toString();
            columns[y] = column.toString();
        }
        way(8 * 16 + 7 - 2, rows);
        way(8 * 16 + 7 - 2, columns);
    }

    /** Every second row, and between two of them one end after the other. */
    private static boolean isOpen(int x, int y) {
        return y % 2 == 0 || y % 4 == 1 && x == 15 || y % 4 == 3 && x == 0;
    }

    private void hangWithDeer() {
        doc.says("DEER are CELLS that must stay without PAPER.");
        PaperStars two = shaped("#.#.", "....", "....", "....");
        hang("no deer", two, 1);
        two.deer(1, 0, true);
        hang("a way round", two, 3);
        two.deer(1, 1, true);
        hang("a longer way", two, 5);
        two.deer(1, 2, true);
        hang("the longest way", two, 7);
        doc.says("-2: it can't be;");
        two.deer(1, 3, true);
        hang("no way", two, -2);
        two.deer(1, 3, false);
        hang("a deer no more", two, 7);
        PaperStars all = shaped("#..#", "....", "....", "#..#");
        for (int cell = 0; cell < 16; cell++) {
            all.deer(cell % 4, cell / 4, true);
        }
        hang("deer everywhere", all, -2);
        PaperStars walled = shaped("#...", "....", "....", "..##");
        walled.deer(1, 0, true);
        hang("one side open", walled, 4);
        walled.deer(0, 1, true);
        hang("walled in", walled, -2);
        PaperStars one = new PaperStars();
        one.deer(0, 0, true);
        hang("one piece, a deer on it", one, 0);
        PaperStars none = Checks.cooked(4, ":c(1=1)");
        none.deer(0, 0, true);
        hang("no piece, a deer", none, 0);
        PaperStars on = shaped("#.#.", "....", "....", "....");
        on.deer(0, 0, true);
        on.deer(2, 0, true);
        hang("deer where paper is get none", on, 1);
        // six pieces, the last of which is walled in
        PaperStars six = shaped("#.#.#.", "......", "#.#.#.", "......", "......", "......");
        six.deer(5, 2, true);
        six.deer(3, 2, true);
        six.deer(4, 3, true);
        hang("six, one side open", six, 5);
        six.deer(4, 1, true);
        hang("six, one walled in", six, -2);
    }
}
