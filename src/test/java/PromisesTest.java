/** The promises one by one: ordinary inputs, edges and wrong inputs. */
public final class PromisesTest {
    private static final Checks CHECKS = new Checks();
    private static final int LEAST = Integer.MIN_VALUE;
    private static final int MOST = Integer.MAX_VALUE;

    public static void main(String[] args) {
        newObject();
        sheet();
        wedgeAndLayers();
        opened();
        sums();
        piece();
        deer();
        hang();
        want();
        wantOpenedAndDiffers();
        fits();
        bestFold();
        snips();
        drawnSnips();
        straight();
        farLines();
        drawnLines();
        scraps();
        alike();
        strips();
        slips();
        odds();
        seedAndDraw();
        keepAndUndo();
        check();
        count();
        CHECKS.due("NONE", PaperStars.NONE, -1);
        CHECKS.end();
    }

    private static void due(String call, long got, long want) {
        CHECKS.due(call, got, want);
    }

    private static void due(String call, boolean got, boolean want) {
        CHECKS.due(call, got, want);
    }

    private static void newObject() {
        PaperStars stars = new PaperStars();
        int[] counts = {16, 0, 0, 0, 1, 0, 256};
        for (int what = 0; what < counts.length; what++) {
            due("1: count " + what, stars.count(what), counts[what]);
        }
        for (int y = 0; y < 16; y++) {
            due("1: row " + y, stars.count(20 + y), 65535);
        }
        due("1: paper", stars.sums(0), 256);
        due("1: no undo", stars.undo(), false);
    }

    private static void sheet() {
        PaperStars stars = new PaperStars();
        for (int size : new int[] {LEAST, -2, 0, 1, 3, 5, 15, 17, 18, 32, MOST}) {
            due("2: sheet " + size, stars.sheet(size), false);
        }
        Checks.cook(stars, "hv:s1,1");
        stars.deer(3, 3, true);
        stars.want(0, 5);
        stars.seed(77);
        due("2: refused", stars.sheet(3), false);
        due("2: refused keeps snips", stars.count(1), 1);
        due("2: refused keeps deer", stars.count(5), 1);
        due("2: refused keeps wanted", stars.count(20), 5);
        stars.feed(1, 2, 3, 4, 5);
        due("2: the same size", stars.sheet(16), true);
        due("2: no recipe", stars.count(1), 0);
        due("2: no folds", stars.count(2), 0);
        due("2: no deer", stars.count(5), 0);
        due("2: all wanted", stars.count(6), 256);
        due("2: the tape stays", stars.count(3), 20);
        due("2: X stays", stars.count(4), 77);
        due("2: all paper", stars.sums(0), 256);
        for (int size = 2; size <= 16; size += 2) {
            due("2: sheet " + size, stars.sheet(size), true);
            due("2: size", stars.count(0), size);
            due("2: wanted", stars.count(6), size * size);
            due("2: paper", stars.sums(0), size * size);
            due("2: wedge", stars.wedge(2), size * size);
        }
    }

    private static void wedges(PaperStars stars, String name, int... wants) {
        for (int what = 0; what < wants.length; what++) {
            due("5: " + name + " wedge " + what, stars.wedge(what), wants[what]);
        }
    }

    private static void wedgeAndLayers() {
        wedges(new PaperStars(), "none", 16, 16, 256, 0, 0, 0);
        wedges(Checks.cooked(16, "hvd:s1,0;s1,0;s7,7"), "hvd", 8, 8, 36, 2, 3, 1);
        wedges(Checks.cooked(16, "hhv:r0,0-3,7"), "hhv", 4, 8, 32, 32, 3, 0);
        wedges(Checks.cooked(6, "hvd:c(1=2)"), "hvd of 6", 3, 3, 6, 0, 3, 1);
        wedges(Checks.cooked(16, "hhhhvvvv:s0,0"), "all", 1, 1, 1, 1, 8, 0);
        PaperStars stars = Checks.cooked(16, "hvd:s1,0");
        due("5: wedge -1", stars.wedge(-1), -1);
        due("5: wedge 6", stars.wedge(6), -1);
        due("5: wedge least", stars.wedge(LEAST), -1);
        due("6: layers", stars.layers(0, 0), 4);
        due("6: layers", stars.layers(1, 0), 8);
        due("6: layers", stars.layers(7, 7), 4);
        due("6: layers beside", stars.layers(0, 1), -1);
        due("6: layers beyond", stars.layers(8, 0), -1);
        due("6: layers below", stars.layers(-1, 0), -1);
        due("6: layers below", stars.layers(0, -1), -1);
        due("7: snipped", stars.snipped(1, 0), 1);
        due("7: snipped", stars.snipped(1, 1), 0);
        due("7: snipped beside", stars.snipped(0, 1), -1);
        due("7: snipped beyond", stars.snipped(8, 8), -1);
        due("7: snipped below", stars.snipped(-1, -1), -1);
        due("7: snipped most", stars.snipped(MOST, MOST), -1);
        due("6: all layers", Checks.cooked(16, "hhhhvvvv:s0,0").layers(0, 0), 256);
        due("6: of h", Checks.cooked(4, "h:s0,0").layers(1, 3), 2);
        due("6: of h, beyond", Checks.cooked(4, "h:s0,0").layers(2, 0), -1);
    }

    private static void shape(PaperStars stars, String... rows) {
        for (int y = 0; y < rows.length; y++) {
            for (int x = 0; x < rows[y].length(); x++) {
                due("8: opened " + x + " " + y, stars.opened(x, y),
                        rows[y].charAt(x) == '#' ? 1 : 0);
            }
        }
    }

    private static void opened() {
        shape(Checks.cooked(4, "h:s0,1"), "####", ".##.", "####", "####");
        shape(Checks.cooked(4, "v:s0,1"), "####", ".###", ".###", "####");
        shape(Checks.cooked(4, "hh:s0,1"), "####", "....", "####", "####");
        shape(Checks.cooked(4, "d:s3,1"), "####", "###.", "####", "#.##");
        shape(Checks.cooked(4, "hvd:s1,0"), "#..#", ".##.", ".##.", "#..#");
        shape(Checks.cooked(6, "hvd:s2,1"),
                "######", "##..##", "#.##.#", "#.##.#", "##..##", "######");
        shape(Checks.cooked(4, "hv:c(1=1)"), "....", "....", "....", "....");
        PaperStars stars = Checks.cooked(4, "h:s0,1");
        due("8: opened beyond", stars.opened(4, 0), -1);
        due("8: opened beyond", stars.opened(0, 4), -1);
        due("8: opened below", stars.opened(-1, 0), -1);
        due("8: opened least", stars.opened(0, LEAST), -1);
    }

    private static void sumsAre(String name, PaperStars stars, int... wants) {
        for (int what = 0; what < wants.length; what++) {
            due("9: " + name + " sums " + what, stars.sums(what), wants[what]);
        }
    }

    private static void sums() {
        sumsAre("whole", Checks.sheet(4), 16, 1, 16, 0, 0, 16, 0);
        sumsAre("nothing", Checks.cooked(4, ":c(1=1)"), 0, 0, 0, 0, 0, 0, 0);
        sumsAre("one", Checks.cooked(4, ":c(!(x=1&y=2))"), 1, 1, 1, 0, 0, 4, 0);
        sumsAre("ring", Checks.cooked(4, ":r1,1-2,2"), 12, 1, 12, 0, 1, 24, 0);
        // two columns of four with a bare one between, and one at the border
        sumsAre("columns", Checks.cooked(4, ":r1,0-1,3;r3,0-3,3"), 8, 2, 4, 4, 0, 20, 4);
        sumsAre("chess", Checks.cooked(4, ":c([x+y]%2=1)"), 8, 8, 1, 7, 2, 32, 0);
        // holes of like cells that touch by corners only are two
        sumsAre("two holes", Checks.cooked(6, ":s2,2;s3,3"), 34, 1, 34, 0, 2, 32, 0);
        sumsAre("open at the border", Checks.cooked(6, ":r2,0-2,3"), 32, 1, 32, 0, 0, 32, 0);
        // two squares joined by a bridge of one cell: the bridge and both cells at it
        sumsAre("bridge", Checks.cooked(6, ":r2,0-2,1;r2,3-2,5;r0,3-5,5"),
                16, 1, 16, 0, 0, 22, 3);
        sumsAre("comb", Checks.cooked(4, ":r1,0-1,2;r3,0-3,2"), 10, 1, 10, 0, 0, 22, 7);
        due("9: open to the left", Checks.cooked(6, ":r0,2-2,3").sums(4), 0);
        due("9: open to the right", Checks.cooked(6, ":r3,2-5,3").sums(4), 0);
        due("9: open at the top", Checks.cooked(6, ":r2,0-3,2").sums(4), 0);
        due("9: open at the bottom", Checks.cooked(6, ":r2,3-3,5").sums(4), 0);
        due("9: open nowhere", Checks.cooked(6, ":r1,1-4,4").sums(4), 1);
        PaperStars stars = Checks.sheet(4);
        due("9: sums -1", stars.sums(-1), -1);
        due("9: sums 7", stars.sums(7), -1);
        due("9: sums most", stars.sums(MOST), -1);
        PaperStars big = Checks.cooked(16, ":c(x%2=1&y>0|x%4=3)");
        due("9: comb of 16, pieces", big.sums(1), 4);
        due("9: comb of 16, cells", big.sums(0), 4 * 33);
        due("9: comb of 16, threads", big.sums(6), 4 * 31);
    }

    private static void piece() {
        PaperStars stars = Checks.cooked(4, ":r1,0-1,3;r3,0-3,3");
        due("10: lowest", stars.piece(0, 3, 0), 0);
        due("10: lowest", stars.piece(2, 3, 0), 2);
        due("10: cells", stars.piece(2, 2, 1), 4);
        due("10: thread", stars.piece(2, 1, 2), 1);
        due("10: no thread", stars.piece(2, 0, 2), 0);
        due("10: like ones: the lowest is main", stars.piece(0, 2, 3), 0);
        due("10: fallen", stars.piece(2, 2, 3), 1);
        due("10: no paper", stars.piece(1, 0, 0), -2);
        due("10: no paper, no such what", stars.piece(1, 0, 4), -1);
        due("10: no such what", stars.piece(0, 0, -1), -1);
        due("10: no such what", stars.piece(0, 0, 4), -1);
        due("10: no such cell", stars.piece(4, 0, 0), -1);
        due("10: no such cell", stars.piece(0, 4, 0), -1);
        due("10: no such cell", stars.piece(-1, 0, 0), -1);
        PaperStars later = Checks.cooked(4, ":r1,0-1,3;s0,0");
        due("10: main is the larger", later.piece(0, 1, 3), 1);
        due("10: main is the larger", later.piece(3, 1, 3), 0);
        due("10: lowest cell by rows", later.piece(0, 3, 0), 16);
        PaperStars whole = new PaperStars();
        due("10: whole", whole.piece(15, 15, 0), 0);
        due("10: whole", whole.piece(15, 15, 1), 256);
        // u-shaped: the lowest cell is in a row above the rest's
        PaperStars u = Checks.cooked(4, ":r0,0-2,0;r1,1-2,2");
        due("10: u", u.piece(0, 1, 0), 3);
        due("10: u", u.piece(0, 1, 1), 9);
    }

    private static void deer() {
        PaperStars stars = Checks.sheet(4);
        due("11: deer", stars.deer(3, 3, true), true);
        due("11: it is so", stars.deer(3, 3, true), false);
        due("11: count", stars.count(5), 1);
        due("11: no more", stars.deer(3, 3, false), true);
        due("11: it is so", stars.deer(3, 3, false), false);
        due("11: count", stars.count(5), 0);
        due("11: beyond", stars.deer(4, 0, true), false);
        due("11: beyond", stars.deer(0, 4, true), false);
        due("11: below", stars.deer(-1, 0, true), false);
        due("11: least", stars.deer(LEAST, LEAST, false), false);
        due("11: count", stars.count(5), 0);
    }

    private static void hang() {
        due("12: whole", Checks.sheet(4).hang(), 0);
        due("12: none", Checks.cooked(4, ":c(1=1)").hang(), 0);
        PaperStars two = Checks.cooked(4, ":r1,0-2,3");
        due("12: two columns", two.hang(), 2);
        two.deer(1, 0, true);
        two.deer(2, 1, true);
        two.deer(1, 2, true);
        due("12: deer leave a row", two.hang(), 2);
        two.deer(1, 3, true);
        due("12: deer leave a way round", two.hang(), -2);
        two.deer(1, 2, false);
        due("12: a deer is gone", two.hang(), 2);
        two.deer(2, 2, true);
        two.deer(1, 3, false);
        due("12: two deer gone", two.hang(), 2);
        two.deer(2, 3, true);
        due("12: can't be", two.hang(), -2);
        PaperStars onPaper = Checks.cooked(4, ":r1,0-2,3");
        onPaper.deer(0, 0, true);
        due("12: deer on paper get none", onPaper.hang(), 2);
        // four corners, each one cell from the left or the right piece, and two between those
        due("12: star", Checks.cooked(6, "hv:s1,0;s0,1;s1,1;r2,0-2,2").hang(), 4 + 2);
        // cells apart: a tree through cells between them
        due("12: cross", Checks.cooked(16,
                ":c(!(x=7&y=0)&!(x=7&y=14)&!(x=0&y=7)&!(x=14&y=7))").hang(), 6 * 4 + 1);
        due("12: far corners", Checks.cooked(16, ":c(!(x=0&y=0)&!(x=15&y=15))").hang(), 29);
        due("12: six", Checks.cooked(16, ":c(x%3>0|x=15)").hang(), 8);
        due("12: six", Checks.cooked(16, ":c(x%3>0)").hang(), 10);
        due("12: more than six", Checks.cooked(16, ":c(x%2>0)").hang(), -3);
        due("12: seven", Checks.cooked(14, ":c(x%2>0)").hang(), -3);
        due("12: six of 12", Checks.cooked(12, ":c(x%2>0)").hang(), 5);
    }

    private static void want() {
        PaperStars stars = Checks.sheet(4);
        due("13: want", stars.want(0, 0), true);
        due("13: want", stars.want(3, 9), true);
        due("13: row", stars.count(23), 9);
        due("13: cells", stars.count(6), 0 + 4 + 4 + 2);
        due("13: beyond", stars.want(4, 0), false);
        due("13: below", stars.want(-1, 0), false);
        due("13: bits beyond", stars.want(1, 16), false);
        due("13: bits beyond", stars.want(1, -1), false);
        due("13: bits beyond", stars.want(1, LEAST), false);
        due("13: nothing changed", stars.count(21), 15);
        PaperStars big = new PaperStars();
        due("13: 16", big.want(15, 65535), true);
        due("13: 16", big.want(15, 65536), false);
        due("13: 16", big.want(15, 32768), true);
        due("13: 16", big.count(35), 32768);
    }

    private static void wantOpenedAndDiffers() {
        PaperStars stars = Checks.cooked(4, "h:s0,1;s1,3");
        due("15: differs", stars.differs(0), 4);
        due("15: first", stars.differs(1), 16);
        due("14: wantOpened", stars.wantOpened(), 12);
        due("14: row", stars.count(21), 6);
        due("14: row", stars.count(23), 9);
        due("15: none", stars.differs(0), 0);
        due("15: none", stars.differs(1), -1);
        stars.want(3, 15);
        due("15: differs", stars.differs(0), 2);
        due("15: first", stars.differs(1), 49);
        due("15: others", stars.differs(2), -1);
        due("15: others", stars.differs(-1), -1);
        Checks.cook(stars, ":c(1=1)");
        due("14: none has paper", stars.wantOpened(), 0);
        due("14: count", stars.count(6), 0);
    }

    private static void fits() {
        PaperStars stars = Checks.sheet(4);
        Checks.wantRows(stars, "#..#", "#..#", "####", "####");
        due("16: none", stars.fits(0, 0, 0), 1);
        due("16: h", stars.fits(1, 0, 0), 1);
        due("16: hh", stars.fits(2, 0, 0), -11);
        due("16: v", stars.fits(0, 1, 0), -10 - 33);
        due("16: d", stars.fits(0, 0, 1), -10 - 16);
        due("16: hd can't be", stars.fits(1, 0, 1), -1);
        due("16: hhh can't be", stars.fits(3, 0, 0), -1);
        due("16: vvv can't be", stars.fits(0, 3, 0), -1);
        due("16: d of one cell can't be", stars.fits(2, 2, 1), -1);
        due("16: d 2", stars.fits(0, 0, 2), -1);
        due("16: d -1", stars.fits(0, 0, -1), -1);
        due("16: a -1", stars.fits(-1, 0, 0), -1);
        due("16: b most", stars.fits(0, MOST, 0), -1);
        PaperStars six = Checks.sheet(6);
        due("16: of 6", six.fits(1, 1, 1), 1);
        due("16: of 6", six.fits(2, 1, 0), -1);
        PaperStars big = new PaperStars();
        due("16: of 16", big.fits(4, 4, 0), 1);
        due("16: of 16", big.fits(4, 4, 1), -1);
        due("16: of 16", big.fits(3, 3, 1), 1);
        due("16: of 16", big.fits(5, 4, 0), -1);
        big.want(15, 32767);
        due("16: the last cell", big.fits(0, 0, 1), 1);
        due("16: the last cell", big.fits(1, 0, 0), -10 - 255);
    }

    private static void best(String name, PaperStars stars, int... wants) {
        for (int what = 0; what < wants.length; what++) {
            due("17: " + name + " " + what, stars.bestFold(what), wants[what]);
        }
    }

    private static void bestFold() {
        best("whole", new PaperStars(), 4, 4, 0, 1, 0);
        best("whole of 6", Checks.sheet(6), 1, 1, 1, 6, 0);
        PaperStars stars = Checks.sheet(4);
        Checks.wantRows(stars, "#..#", "#..#", "####", "####");
        best("h", stars, 1, 0, 0, 8, 2);
        Checks.wantRows(stars, "#...", "####", "####", "####");
        best("none", stars, 0, 0, 0, 16, 3);
        Checks.wantRows(stars, "#.##", ".###", "####", "####");
        best("d", stars, 0, 0, 1, 10, 1);
        Checks.wantRows(stars, "####", "....", "....", "####");
        best("hh v", stars, 2, 1, 0, 2, 1);
        // all rows are alike: two v leave one of them
        Checks.wantRows(stars, "#.##", "#.##", "#.##", "#.##");
        best("vv", stars, 0, 2, 0, 4, 1);
        PaperStars big = new PaperStars();
        big.want(2, 65534);
        best("none of 16", big, 0, 0, 0, 256, 1);
        due("17: others", stars.bestFold(5), -1);
        due("17: others", stars.bestFold(-1), -1);
        PaperStars two = Checks.sheet(2);
        Checks.wantRows(two, "#.", ".#");
        best("of 2", two, 0, 0, 1, 3, 1);
        Checks.wantRows(two, "..", "..");
        best("bare", two, 1, 1, 0, 1, 1);
    }

    private static PaperStars wanted(int size, String... rows) {
        PaperStars stars = Checks.sheet(size);
        Checks.wantRows(stars, rows);
        return stars;
    }

    private static void snips() {
        due("18: none", Checks.sheet(4).snips(0, 0, 0), 0);
        due("18: one", wanted(4, "####", "#..#", "#..#", "####").snips(0, 0, 0), 1);
        due("18: one by folds", wanted(4, "####", "#..#", "#..#", "####").snips(1, 1, 0), 1);
        due("18: one by d", wanted(4, "####", "#..#", "#..#", "####").snips(1, 1, 1), 1);
        due("18: a cross", wanted(4, "#.##", "....", "#.##", "####").snips(0, 0, 0), 2);
        due("18: chess", wanted(4, ".#.#", "#.#.", "####", "####").snips(0, 0, 0), 4);
        due("18: five", wanted(4, ".#.#", "#.#.", ".###", "####").snips(0, 0, 0), -2);
        due("18: all", wanted(4, "....", "....", "....", "....").snips(0, 0, 0), 1);
        due("18: a ring", wanted(4, "....", ".##.", ".##.", "....").snips(0, 0, 0), 4);
        due("18: stairs", wanted(4, "####", ".###", "..##", "...#").snips(0, 0, 0), 3);
        // a d's corner is one snip: what is beside the wedge is no harm
        due("18: corner", wanted(4, "....", "....", "....", "....").snips(0, 0, 1), 1);
        due("18: in a corner", wanted(4, "...#", "...#", "...#", "####").snips(0, 0, 1), 1);
        due("18: on the slant", wanted(4, ".###", "#.##", "##.#", "###.").snips(0, 0, 1), 4);
        due("18: round the slant", wanted(4, "#..#", ".#.#", "..##", "####").snips(0, 0, 1), 2);
        PaperStars stars = wanted(4, "#...", "####", "####", "####");
        due("18: no fit", stars.snips(1, 0, 0), -3);
        due("18: can't be", stars.snips(3, 0, 0), -1);
        due("18: can't be", stars.snips(1, 0, 1), -1);
        due("18: can't be", stars.snips(0, 0, 2), -1);
        PaperStars big = new PaperStars();
        due("18: 256 places", big.snips(0, 0, 0), -4);
        due("18: 128 places", big.snips(1, 0, 0), -4);
        due("18: 136 places", big.snips(0, 0, 1), -4);
        due("18: 64 places", big.snips(2, 0, 0), 0);
        big.want(3, 5);
        due("18: too many, ahead of no fit", big.snips(0, 0, 1), -4);
        due("18: no fit", big.snips(1, 1, 0), -3);
        due("18: 55 places", Checks.sheet(10).snips(0, 0, 1), 0);
        due("18: 78 places", Checks.sheet(12).snips(0, 0, 1), -4);
        due("18: 64 places", wanted(8, "........", ".######.", ".######.", ".######.", ".######.",
                ".######.", ".######.", "........").snips(0, 0, 0), 4);
        due("18: the last places", wanted(8, "########", "########", "########", "########",
                "########", "########", "########", "######..").snips(0, 0, 0), 1);
    }

    /** Boxes drawn in the wedge of some folds, opened to what is wanted. */
    private static void drawnSnips() {
        java.util.Random random = new java.util.Random(18);
        int[][] folds = {{4, 0, 0, 0}, {4, 0, 0, 1}, {6, 0, 0, 1}, {6, 0, 1, 0}, {8, 0, 0, 1},
            {8, 0, 0, 0}, {10, 0, 0, 1}, {16, 2, 0, 0}, {16, 0, 2, 0}, {16, 1, 1, 1}};
        for (int i = 0; i < 400; i++) {
            int[] by = folds[i % folds.length];
            PaperStars stars = Checks.sheet(by[0]);
            SlowStars slow = new SlowStars();
            slow.sheet(by[0]);
            int boxes = 1 + random.nextInt(6);
            boolean[] bare = new boolean[256];
            for (int j = 0; j < boxes; j++) {
                int x = random.nextInt(by[0] >> by[1]);
                int y = random.nextInt(by[0] >> by[2]);
                int w = 1 + random.nextInt(5);
                int h = 1 + random.nextInt(5);
                for (int k = 0; k < w * h; k++) {
                    int at = 16 * (y + k / w) + x + k % w;
                    if (at < 256 && x + k % w < 16) {
                        bare[at] = true;
                    }
                }
            }
            String letters = slow.lettersOf(by[1], by[2], by[3]);
            for (int y = 0; y < by[0]; y++) {
                int row = 0;
                for (int x = 0; x < by[0]; x++) {
                    int[] to = slow.place(letters, 0, x, y);
                    row |= bare[16 * to[1] + to[0]] ? 0 : 1 << x;
                }
                stars.want(y, row);
                slow.want(y, row);
            }
            due("18: drawn " + letters + " of " + by[0] + ", " + i,
                    stars.snips(by[1], by[2], by[3]), slow.snips(by[1], by[2], by[3]));
        }
    }

    private static void line(String name, PaperStars stars, int fold, int p, int q, int c) {
        int[] wants = {p, q, c};
        for (int what = 0; what < 3; what++) {
            due("19: " + name + " " + what,
                    stars.straight(fold / 100, fold / 10 % 10, fold % 10, what), wants[what]);
        }
    }

    private static void straight() {
        line("lower right", wanted(4, "####", "####", "####", "###."), 0, 1, 1, 5);
        line("left column", wanted(4, ".###", ".###", ".###", ".###"), 0, -3, 0, -3);
        line("top row", wanted(4, "....", "####", "####", "####"), 0, 0, -3, -3);
        line("right columns", wanted(4, "##..", "##..", "##..", "##.."), 0, 1, 0, 1);
        line("stairs", wanted(4, "###.", "##..", "#...", "...."), 0, 1, 1, 2);
        line("steep", wanted(4, "##..", "##..", "#...", "#..."), 0, 2, 1, 3);
        line("by h", wanted(4, ".##.", ".##.", ".##.", ".##."), 100, -3, 0, -3);
        line("by hv", wanted(4, ".##.", "####", "####", ".##."), 110, -3, -3, -3);
        line("by d", wanted(4, "###.", "####", "####", ".###"), 1, 1, -3, 2);
        PaperStars stars = wanted(4, "#..#", "####", "####", "####");
        due("19: there is none", stars.straight(0, 0, 0, 0), -1000);
        due("19: no fit", stars.straight(0, 1, 0, 0), -1000);
        due("19: can't be", stars.straight(3, 0, 0, 0), -1000);
        due("19: no such what", stars.straight(1, 0, 0, 3), -1000);
        due("19: no such what", stars.straight(1, 0, 0, -1), -1000);
        due("19: none bare", Checks.sheet(4).straight(0, 0, 0, 0), -1000);
        due("19: all bare", wanted(2, "..", "..").straight(0, 0, 0, 0), -1000);
        // on a big sheet c must stay within 60
        PaperStars big = new PaperStars();
        big.want(15, 32767);
        line("last cell of 16", big, 0, 1, 1, 29);
        PaperStars first = new PaperStars();
        first.want(0, 65534);
        line("first cell of 16", first, 0, -3, -3, -3);
    }

    /** A sheet of 16 that wants no paper where p x + q y is above c. */
    private static PaperStars above(int p, int q, int c) {
        PaperStars stars = new PaperStars();
        for (int y = 0; y < 16; y++) {
            int row = 0;
            for (int x = 0; x < 16; x++) {
                row |= p * x + q * y > c ? 0 : 1 << x;
            }
            stars.want(y, row);
        }
        return stars;
    }

    private static void farLines() {
        line("c 60", above(2, 3, 60), 0, 2, 3, 60);
        line("c 61", above(2, 3, 61), 0, -1000, -1000, -1000);
        line("c 60", above(3, 2, 60), 0, 3, 2, 60);
        line("c 61", above(3, 2, 61), 0, -1000, -1000, -1000);
        line("c -60", above(-3, -2, -60), 0, -3, -2, -60);
        line("c -61", above(-3, -2, -61), 0, -1000, -1000, -1000);
        line("c -60", above(-3, -3, -60), 0, -3, -3, -60);
        line("c -61, less steep", above(-3, -3, -61), 0, -2, -2, -42);
    }

    /** Lines drawn on large sheets: also those whose c is at its ends or beyond them. */
    private static void drawnLines() {
        java.util.Random random = new java.util.Random(19);
        for (int i = 0; i < 120; i++) {
            int size = 12 + 2 * random.nextInt(3);
            int p = random.nextInt(7) - 3;
            int q = random.nextInt(7) - 3;
            int c = i % 2 == 0 ? random.nextInt(60) - 30 : (57 + random.nextInt(7)) * (i % 4 - 2);
            PaperStars stars = Checks.sheet(size);
            SlowStars slow = new SlowStars();
            slow.sheet(size);
            for (int y = 0; y < size; y++) {
                int row = 0;
                for (int x = 0; x < size; x++) {
                    row |= p * x + q * y > c ? 0 : 1 << x;
                }
                stars.want(y, row);
                slow.want(y, row);
            }
            for (int what = 0; what < 3; what++) {
                due("19: of " + size + " by " + p + " " + q + " " + c,
                        stars.straight(0, 0, 0, what), slow.straight(0, 0, 0, what));
            }
        }
    }

    private static void scraps() {
        PaperStars stars = wanted(4, "#..#", "####", "####", "#..#");
        due("20: of 4", stars.scraps(4, -1), 1);
        due("20: of 4", stars.scraps(4, 0), 0);
        due("20: of 2", stars.scraps(2, -1), 2);
        due("20: of 2", stars.scraps(2, 0), 10);
        due("20: of 2", stars.scraps(2, 1), 100);
        due("20: of 2", stars.scraps(2, 2), -2);
        due("20: of 1", stars.scraps(1, -1), 1);
        due("20: of 1", stars.scraps(1, 0), 110);
        due("20: of 3", stars.scraps(3, -1), 0);
        due("20: of 3", stars.scraps(3, 0), -2);
        due("20: of 256", stars.scraps(256, -1), 0);
        due("20: of 257", stars.scraps(257, -1), -3);
        due("20: of -1", stars.scraps(-1, -1), -3);
        due("20: what -2", stars.scraps(2, -2), -3);
        due("20: what least", stars.scraps(2, LEAST), -3);
        due("20: what most", stars.scraps(2, MOST), -2);
        PaperStars big = new PaperStars();
        // all of a, b from 0 to 4, and d with a = b up to 3
        due("20: whole", big.scraps(0, -1), 25 + 4);
        due("20: whole, last", big.scraps(0, 28), 440);
        due("20: whole, d", big.scraps(0, 8), 111);
        for (int y = 0; y < 16; y++) {
            big.want(y, 0);
        }
        due("20: bare", big.scraps(256, 0), 0);
        due("20: bare", big.scraps(136, 0), 1);
        due("20: bare", big.scraps(16, -1), 5);
    }

    private static void alike() {
        due("21: n 0", new PaperStars().alike(0, 0), -1);
        due("21: n 8", new PaperStars().alike(8, 0), -1);
        due("21: k -1", new PaperStars().alike(3, -1), -1);
        due("21: k 10", new PaperStars().alike(3, 10), -1);
        due("21: k 50", new PaperStars().alike(7, 50), -1);
        long[] all = {0, 2, 6, 102, 8548, 4211744, 8590557312L, 70368882591744L};
        SlowStars slow = new SlowStars();
        PaperStars stars = new PaperStars();
        for (int n = 1; n <= 7; n++) {
            long sum = 0;
            for (int k = 0; k <= n * n; k++) {
                long ways = stars.alike(n, k);
                sum += ways;
                due("21: mirrored " + n + " " + k, stars.alike(n, n * n - k), ways);
                if (n <= 4) {
                    due("21: alike " + n + " " + k, ways, slow.alike(n, k));
                }
            }
            due("21: all of " + n, sum, all[n]);
        }
        due("21: 5, 1", stars.alike(5, 1), 6);
        due("21: 7, 1", stars.alike(7, 1), 10);
        due("21: 6, 2", stars.alike(6, 2), 93);
    }

    private static int stripped(int length, int what, int... orders) {
        PaperStars stars = new PaperStars();
        Checks.feed(stars, orders);
        int answer = stars.strips(length, orders.length, what);
        due("22: tape", stars.count(3), answer == -1 ? 20 : 0);
        return answer;
    }

    private static void strips() {
        due("22: one", stripped(255, 0, 255), 1);
        due("22: one", stripped(255, 1, 255), 0);
        due("22: one", stripped(255, 1, 1), 254);
        due("22: shortest", stripped(1, 0, 1, 1, 1), 3);
        due("22: first fit fails", stripped(10, 0, 5, 4, 4, 3, 2, 2), 2);
        due("22: first fit fails", stripped(10, 1, 5, 4, 4, 3, 2, 2), 0);
        due("22: ten", stripped(9, 0, 5, 5, 5, 5, 5, 5, 5, 5, 5, 5), 10);
        due("22: ten", stripped(10, 0, 5, 5, 5, 5, 5, 5, 5, 5, 5, 5), 5);
        due("22: ten", stripped(255, 0, 128, 128, 127, 127, 200, 55, 100, 155, 254, 1), 5);
        due("22: ten", stripped(255, 1, 128, 128, 127, 127, 200, 55, 100, 155, 254, 1), 0);
        due("22: too long", stripped(10, 0, 5, 11), -2);
        due("22: nothing", stripped(10, 0, 5, 0), -2);
        due("22: length 0", stripped(0, 0, 1), -1);
        due("22: length 256", stripped(256, 0, 1), -1);
        due("22: what 2", stripped(10, 2, 1), -1);
        due("22: what -1", stripped(10, -1, 1), -1);
        PaperStars stars = new PaperStars();
        due("22: no tape", stars.strips(10, 1, 0), -1);
        stars.feed(0x01010101, 0x01010101, 0x01010101, 0, 0);
        due("22: n 0", stars.strips(10, 0, 0), -1);
        due("22: n 11", stars.strips(10, 11, 0), -1);
        due("22: n -1", stars.strips(10, -1, 0), -1);
        due("22: tape stays", stars.count(3), 20);
        due("22: n 10", stars.strips(10, 10, 0), 1);
    }

    private static void slips() {
        PaperStars stars = Checks.cooked(4, "hv:s0,0");
        due("23: none", stars.slipped(0, 3, 3), 0);
        due("23: h", stars.slipped(1, 3, 3), 1);
        due("23: v", stars.slipped(2, 0, 3), 1);
        due("23: v", stars.slipped(2, 3, 0), 0);
        due("23: both", stars.slipped(3, 0, 0), 0);
        due("23: bits", stars.slipped(4, 0, 0), -1);
        due("23: bits", stars.slipped(-1, 0, 0), -1);
        due("23: beyond", stars.slipped(0, 4, 0), -1);
        due("23: below", stars.slipped(0, 0, -1), -1);
        due("24: none", stars.spoilt(0), 0);
        due("24: h", stars.spoilt(1), 2);
        due("24: both", stars.spoilt(3), 3);
        due("24: bits", stars.spoilt(4), -1);
        due("24: bits", stars.spoilt(-1), -1);
        due("24: bits", stars.spoilt(LEAST), -1);
        PaperStars one = Checks.cooked(4, "h:s1,0");
        due("23: h comes to 1", one.slipped(1, 3, 0), 0);
        due("23: beyond the wedge", one.slipped(1, 2, 0), 1);
        due("24: both cells", one.spoilt(1), 2);
        PaperStars all = Checks.cooked(4, "h:c(1=1)");
        due("23: never cut", all.slipped(1, 2, 1), 1);
        due("24: never cut", all.spoilt(1), 4);
        PaperStars d = Checks.cooked(4, "d:s3,3");
        due("23: d", d.slipped(1, 2, 3), 0);
        due("23: d", d.slipped(1, 3, 3), 0);
        due("24: d", d.spoilt(1), 1);
        slipsBeyond();
        due("23: no folds", new PaperStars().slipped(0, 15, 15), 1);
        due("23: no folds", new PaperStars().slipped(1, 15, 15), -1);
        due("23: eight folds", Checks.cooked(16, "hhhhvvvv:s0,0").slipped(255, 0, 0), 0);
        due("23: eight folds", Checks.cooked(16, "hhhhvvvv:s0,0").slipped(256, 0, 0), -1);
    }

    /** What a slip brings beyond the wedge is never cut, whatever later folds do. */
    private static void slipsBeyond() {
        // x 4 of 8 comes to 4, beyond; W - 1 - x would be -1 at the next fold, and W - x 0
        PaperStars twice = Checks.cooked(8, "hh:c(x=0)");
        due("23: beyond, no more slips", twice.slipped(1, 4, 0), 1);
        due("23: beyond, a second slip", twice.slipped(3, 4, 0), 1);
        due("23: not beyond, a second slip", twice.slipped(3, 0, 0), 0);
        due("23: not beyond, to 1 by the first", twice.slipped(1, 7, 0), 1);
        due("23: 5 comes to 3, then to 0", twice.slipped(1, 5, 0), 0);
        due("23: 5 comes to 3, then to 1", twice.slipped(3, 5, 0), 1);
        due("23: 6 comes to 2, then beyond", twice.slipped(3, 6, 0), 1);
        // x 0, 3, 4, 7 are cut without slips; 0, 3, 5 if the first slips; 0 alone if both do
        due("24: the first slips", twice.spoilt(1), 24);
        due("24: both slip", twice.spoilt(3), 24);
        PaperStars down = Checks.cooked(8, "vv:c(y=0)");
        due("23: v, a second slip", down.slipped(3, 0, 4), 1);
        due("24: v, both slip", down.spoilt(3), 24);
        PaperStars both = Checks.cooked(4, "hv:c(1=1)");
        due("23: h beyond, v slips", both.slipped(3, 2, 3), 1);
        due("23: v beyond, h slips", both.slipped(3, 3, 2), 1);
        due("23: none beyond", both.slipped(3, 3, 3), 0);
        // x 8 of 16 comes to 8, beyond; d's slip would bring x -1 to y 0
        PaperStars late = Checks.cooked(16, "hhvvd:c(1=1)");
        due("23: h beyond, d slips", late.slipped(17, 8, 0), 1);
        due("23: h beyond, d slips", late.slipped(17, 8, 2), 1);
        due("23: v beyond, d slips", late.slipped(20, 0, 8), 1);
        due("23: d slips alone", late.slipped(16, 8, 2), 0);
    }

    private static void odd(PaperStars stars, int tenths, int k, long above, long below) {
        due("25: odds " + tenths + " " + k + " above", stars.odds(tenths, k, 0), above);
        due("25: odds " + tenths + " " + k + " below", stars.odds(tenths, k, 1), below);
    }

    private static void odds() {
        PaperStars none = new PaperStars();
        odd(none, 3, 0, 1, 1);
        odd(none, 10, 0, 1, 1);
        odd(none, 3, 1, 0, 1);
        PaperStars two = Checks.cooked(16, "hv:s0,0");
        odd(two, 3, 0, 49, 100);
        odd(two, 3, 1, 21, 50);
        odd(two, 3, 2, 9, 100);
        odd(two, 3, 3, 0, 1);
        odd(two, 0, 0, 1, 1);
        odd(two, 0, 1, 0, 1);
        odd(two, 10, 2, 1, 1);
        odd(two, 10, 0, 0, 1);
        odd(two, 5, 1, 1, 2);
        PaperStars eight = Checks.cooked(16, "hhhhvvvv:s0,0");
        odd(eight, 5, 4, 35, 128);
        odd(eight, 1, 8, 1, 100000000);
        odd(eight, 9, 8, 43046721, 100000000);
        for (int[] bad : new int[][] {{-1, 0, 0}, {11, 0, 0}, {5, -1, 0}, {5, 9, 0}, {5, 0, 2},
                {5, 0, -1}}) {
            due("25: no such ones", two.odds(bad[0], bad[1], bad[2]), -1);
        }
    }

    private static void seedAndDraw() {
        PaperStars stars = Checks.cooked(16, "hvd:s0,0");
        due("26: -1", stars.seed(-1), false);
        due("26: 65536", stars.seed(65536), false);
        due("26: stays", stars.count(4), 1);
        due("26: 0", stars.seed(0), true);
        due("26: X", stars.count(4), 0);
        // 13849, 58882, 27507 behind one another
        due("27: draw", stars.draw(9), 2 + 4);
        due("27: X", stars.count(4), (25173L * ((25173L * 13849 + 13849) % 65536) + 13849) % 65536);
        due("26: 65535", stars.seed(65535), true);
        due("27: none slips", stars.draw(0), 0);
        due("27: all slip", stars.draw(10), 7);
        int before = stars.count(4);
        due("27: -1", stars.draw(-1), -1);
        due("27: 11", stars.draw(11), -1);
        due("27: X stays", stars.count(4), before);
        PaperStars none = new PaperStars();
        due("27: no folds", none.draw(10), 0);
        due("27: X stays", none.count(4), 1);
    }

    private static void keepAndUndo() {
        PaperStars stars = Checks.cooked(4, "hv:s0,0;s1,1");
        due("29: none kept", stars.undo(), false);
        stars.want(1, 3);
        stars.deer(2, 2, true);
        stars.seed(9);
        due("28: keep", stars.keep(), 8);
        stars.sheet(8);
        Checks.cook(stars, "d:s0,0");
        stars.seed(10);
        stars.feed(1, 1, 1, 1, 1);
        due("29: undo", stars.undo(), true);
        int[] wants = {4, 2, 2, 20, 9, 1, 14};
        for (int what = 0; what < wants.length; what++) {
            due("29: count " + what, stars.count(what), wants[what]);
        }
        due("29: row", stars.count(21), 3);
        due("29: paper", stars.sums(0), 8);
        due("29: pieces", stars.sums(1), 4);
        due("29: wedge", stars.wedge(0), 2);
        due("29: wedge", stars.wedge(5), 0);
        stars.deer(2, 2, false);
        due("29: again", stars.undo(), true);
        due("29: again", stars.count(5), 1);
        stars.sheet(2);
        due("28: kept last", stars.keep(), 4);
        stars.sheet(6);
        due("29: kept last", stars.undo(), true);
        due("29: kept last", stars.count(0), 2);
    }

    private static int checked(PaperStars stars, int y, int n, int... numbers) {
        int[] all = new int[20];
        System.arraycopy(numbers, 0, all, 0, numbers.length);
        for (int i = 0; i < 20; i += 5) {
            stars.feed(all[i], all[i + 1], all[i + 2], all[i + 3], all[i + 4]);
        }
        int answer = stars.check(y, n);
        due("30: tape", stars.count(3), answer == -2 ? 80 : 0);
        return answer;
    }

    private static void check() {
        PaperStars stars = Checks.cooked(4, "h:s0,1");
        due("30: right", checked(stars, 1, 4, 0, 1, 1, 0), -1);
        due("30: right", checked(stars, 0, 4, 1, 1, 1, 1), -1);
        due("30: first", checked(stars, 1, 4, 1, 1, 1, 1), 0);
        due("30: last", checked(stars, 1, 4, 0, 1, 1, 1), 3);
        due("30: first of two", checked(stars, 1, 4, 0, 0, 0, 0), 1);
        due("30: fewer", checked(stars, 1, 2, 0, 1, 9, 9), -1);
        due("30: none", checked(stars, 1, 0, 9), -1);
        due("30: more", checked(stars, 1, 5, 0, 1, 1, 0, 0), 4);
        due("30: more", checked(stars, 1, 16, 0, 1, 1, 0), 4);
        due("30: more, one wrong", checked(stars, 1, 16, 0, 1, 2, 0), 2);
        due("30: only 1 is right", checked(stars, 0, 4, 1, 256, 1, 1), 1);
        due("30: only 1 is right", checked(stars, 0, 4, 1, 1, -1, 1), 2);
        due("30: row 4", checked(stars, 4, 1, 1), -2);
        due("30: empty it", stars.recipe(1), -1000);
        due("30: row -1", checked(stars, -1, 1, 1), -2);
        stars.recipe(1);
        due("30: n 17", checked(stars, 0, 17, 1), -2);
        stars.recipe(1);
        due("30: n -1", checked(stars, 0, -1, 1), -2);
        stars.recipe(1);
        due("30: n most", checked(stars, 0, MOST, 1), -2);
        stars.recipe(1);
        stars.feed(1, 1, 1, 1, 1);
        due("30: not so many", stars.check(0, 6), -2);
        due("30: the tape stays", stars.count(3), 20);
        due("30: five", stars.check(0, 5), 4);
        due("30: empty then", stars.count(3), 0);
        PaperStars big = new PaperStars();
        due("30: 16", checked(big, 15, 16, 1, 1, 1, 1, 1, 1, 1, 1, 1, 1, 1, 1, 1, 1, 1, 1), -1);
        due("30: 16", checked(big, 15, 16, 1, 1, 1, 1, 1, 1, 1, 1, 1, 1, 1, 1, 1, 1, 1), 15);
    }

    private static void count() {
        PaperStars stars = Checks.cooked(4, "hvd:s0,0;s1,1");
        stars.want(3, 6);
        stars.deer(0, 0, true);
        stars.deer(1, 0, true);
        stars.feed(0, 0, 0, 0, 0);
        int[] wants = {4, 2, 3, 20, 1, 2, 14};
        for (int what = 0; what < wants.length; what++) {
            due("31: count " + what, stars.count(what), wants[what]);
        }
        due("31: row", stars.count(23), 6);
        for (int what : new int[] {LEAST, -1, 7, 19, 24, 35, 36, MOST}) {
            due("31: count " + what, stars.count(what), -1);
        }
    }
}
