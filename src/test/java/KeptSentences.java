/** What is KEPT and UNDONE, CHECK and counts; promises 28 to 31. */
final class KeptSentences {
    private static final int LEAST = Integer.MIN_VALUE;
    private static final int MOST = Integer.MAX_VALUE;

    private final Doc doc;

    private KeptSentences(Doc doc) {
        this.doc = doc;
    }

    static void ask(Doc doc) {
        KeptSentences all = new KeptSentences(doc);
        all.keep();
        all.undo();
        all.eachByItself();
        all.keptLast();
        all.check();
        all.checkNumbers();
        all.checkBytes();
        all.checkBeyond();
        all.noCheck();
        all.count();
    }

    private void keep() {
        doc.says("KEPT: how many CELLS have PAPER, OPENED.");
        doc.due("no recipe", new PaperStars().keep(), 256);
        doc.due("of 2", Checks.sheet(2).keep(), 4);
        doc.due("none", Checks.cooked(16, ":c(1=1)").keep(), 0);
        doc.due("some", Checks.cooked(4, "hv:s0,0").keep(), 12);
        PaperStars wanted = new PaperStars();
        wanted.want(0, 0);
        doc.due("OPENED, not WANTED", wanted.keep(), 256);
    }

    private void undo() {
        doc.says("UNDONE: true; false: none was KEPT.");
        PaperStars stars = Checks.cooked(4, "hv:s0,0");
        stars.want(0, 3);
        stars.feed(1, 2, 3, 4, 5);
        doc.due("none kept", stars.undo(), false);
        int[] counts = {4, 1, 2, 20, 1, 0, 14};
        for (int what = 0; what < counts.length; what++) {
            doc.due("none kept, count " + what, stars.count(what), counts[what]);
        }
        stars.keep();
        doc.due("kept", stars.undo(), true);
        for (int what = 0; what < counts.length; what++) {
            doc.due("kept, count " + what, stars.count(what), counts[what]);
        }
        stars.sheet(16);
        doc.due("kept over a new sheet", stars.undo(), true);
        doc.due("kept over a new sheet", stars.count(0), 4);
    }

    private static PaperStars kept() {
        PaperStars stars = Checks.cooked(4, "hv:s0,0;s1,1");
        stars.want(1, 6);
        stars.deer(2, 3, true);
        stars.seed(4711);
        stars.keep();
        return stars;
    }

    private void asKept(String name, PaperStars stars) {
        int[] counts = {4, 2, 2, 0, 4711, 1, 14};
        for (int what = 0; what < counts.length; what++) {
            if (what != 3) {
                doc.due(name + ", count " + what, stars.count(what), counts[what]);
            }
        }
        doc.due(name + ", wanted", stars.count(21), 6);
        doc.due(name + ", its deer", stars.deer(2, 3, true), false);
        doc.due(name + ", no other deer", stars.deer(3, 2, false), false);
        int[] wedge = {2, 2, 4, 2, 2, 0};
        for (int what = 0; what < wedge.length; what++) {
            doc.due(name + ", wedge " + what, stars.wedge(what), wedge[what]);
        }
        doc.due(name + ", paper", stars.sums(0), 8);
        doc.due(name + ", pieces", stars.sums(1), 4);
        doc.due(name + ", hang", stars.hang(), 3);
        doc.due(name + ", cut", stars.snipped(1, 1), 1);
        doc.due(name + ", slips", stars.slipped(3, 3, 3), 0);
        doc.due(name + ", no such slips", stars.slipped(4, 3, 3), -1);
    }

    private void eachByItself() {
        doc.says("KEPT: the RECIPE, WANTED, DEER, SIZE, X; UNDONE: as they were KEPT last.");
        PaperStars recipe = kept();
        Checks.cook(recipe, "d:s3,0");
        doc.due("recipe", recipe.undo(), true);
        asKept("recipe", recipe);
        PaperStars wanted = kept();
        wanted.want(1, 9);
        wanted.want(3, 0);
        doc.due("wanted", wanted.undo(), true);
        asKept("wanted", wanted);
        PaperStars opened = kept();
        opened.wantOpened();
        doc.due("wantOpened", opened.undo(), true);
        asKept("wantOpened", opened);
        PaperStars deer = kept();
        deer.deer(2, 3, false);
        deer.deer(3, 2, true);
        deer.deer(0, 0, true);
        doc.due("deer", deer.undo(), true);
        asKept("deer", deer);
        PaperStars size = kept();
        size.sheet(16);
        doc.due("size", size.undo(), true);
        asKept("size", size);
        PaperStars seed = kept();
        seed.seed(65535);
        doc.due("seed", seed.undo(), true);
        asKept("seed", seed);
        PaperStars drawn = kept();
        drawn.draw(5);
        doc.due("drawn", drawn.undo(), true);
        asKept("drawn", drawn);
        PaperStars nothing = kept();
        doc.due("nothing changed", nothing.undo(), true);
        asKept("nothing changed", nothing);
        PaperStars tape = kept();
        tape.feed(1, 2, 3, 4, 5);
        doc.due("the tape is not kept", tape.undo(), true);
        doc.due("the tape is not kept", tape.count(3), 20);
        asKept("tape", tape);
    }

    private void keptLast() {
        doc.says("KEPT: the RECIPE, WANTED, DEER, SIZE, X; UNDONE: as they were KEPT last.");
        PaperStars stars = kept();
        stars.sheet(6);
        stars.seed(5);
        doc.due("kept again", stars.keep(), 36);
        stars.sheet(8);
        doc.due("undone", stars.undo(), true);
        doc.due("the last one", stars.count(0), 6);
        doc.due("the last one", stars.count(4), 5);
        stars.sheet(10);
        doc.due("undone again", stars.undo(), true);
        doc.due("the last one again", stars.count(0), 6);
        // what is done behind an undo does not change what is kept
        stars.deer(1, 1, true);
        stars.want(2, 0);
        Checks.cook(stars, "h:s0,0");
        doc.due("undone once more", stars.undo(), true);
        int[] counts = {6, 0, 0, 0, 5, 0, 36};
        for (int what = 0; what < counts.length; what++) {
            doc.due("the last one, count " + what, stars.count(what), counts[what]);
        }
        doc.due("the last one, paper", stars.sums(0), 36);
    }

    /** Feeds numbers, behind them sevens till there are sixteen or more. */
    private static void numbers(PaperStars stars, int... numbers) {
        int[] all = new int[20];
        java.util.Arrays.fill(all, 7);
        System.arraycopy(numbers, 0, all, 0, numbers.length);
        for (int i = 0; i < 20; i += 5) {
            stars.feed(all[i], all[i + 1], all[i + 2], all[i + 3], all[i + 4]);
        }
    }

    private void checked(String name, PaperStars stars, int y, int n, int want, int... numbers) {
        numbers(stars, numbers);
        doc.due(name, stars.check(y, n), want);
        doc.due(name + ", the tape is empty", stars.count(3), 0);
    }

    private void check() {
        doc.says("CHECK of a row y: PAPER of its CELLS (1, 0): right,"
                + " or the first number that is not so.");
        doc.says("CHECK of a row, OPENED, by the first n numbers of the tape"
                + " (0 to 16; four bytes each; empty then): NONE: right;");
        PaperStars stars = Checks.cooked(4, "h:s0,1");
        checked("n 0", stars, 1, 0, -1, 9);
        checked("n 1", stars, 1, 1, -1, 0, 9);
        checked("n 3", stars, 1, 3, -1, 0, 1, 1, 9);
        checked("n 4", stars, 1, 4, -1, 0, 1, 1, 0);
        checked("row 0", stars, 0, 4, -1, 1, 1, 1, 1);
        checked("last row", stars, 3, 4, -1, 1, 1, 1, 1);
        PaperStars big = new PaperStars();
        checked("n 16", big, 15, 16, -1, 1, 1, 1, 1, 1, 1, 1, 1, 1, 1, 1, 1, 1, 1, 1, 1);
        checked("the last of 16", big, 15, 16, 15, 1, 1, 1, 1, 1, 1, 1, 1, 1, 1, 1, 1, 1, 1, 1, 0);
        PaperStars empty = new PaperStars();
        doc.due("n 0 of no tape", empty.check(0, 0), -1);
        // WANTED does not matter
        stars.want(1, 15);
        checked("OPENED", stars, 1, 4, -1, 0, 1, 1, 0);
        stars.feed(0, 1, 1, 0, 9);
        doc.due("n 4 of 20 bytes", stars.check(1, 4), -1);
        doc.due("empty then, what is behind it, too", stars.count(3), 0);
    }

    private void checkNumbers() {
        doc.says("else the place of the first number that is not so ");
        PaperStars stars = Checks.cooked(4, "h:s0,1");
        checked("the first", stars, 1, 4, 0, 1, 1, 1, 0);
        checked("the last", stars, 1, 4, 3, 0, 1, 1, 1);
        checked("the first of two", stars, 1, 4, 1, 0, 0, 0, 0);
        checked("one behind n", stars, 1, 3, -1, 0, 1, 1, 1);
        for (int number : new int[] {-1, 2, 3, 256, 257, 65537, 16777217, LEAST, LEAST + 1, MOST}) {
            checked("1 is due, not " + number, stars, 0, 4, 2, 1, 1, number, 1);
            checked("0 is due, not " + number, stars, 1, 4, 3, 0, 1, 1, number);
        }
    }

    /** Each of the 64 bytes by itself makes its number a wrong one. */
    private void checkBytes() {
        doc.says("(0 to 16; four bytes each; empty then)");
        PaperStars bare = Checks.cooked(16, ":c(1=1)");
        for (int at = 0; at < 64; at++) {
            int[] bytes = new int[80];
            bytes[at] = at % 4 == 0 ? 128 : 1;
            Checks.feed(bare, bytes);
            doc.due("byte " + at, bare.check(15, 16), at / 4);
        }
    }

    private void checkBeyond() {
        doc.says("(SIZE, if n is above it);");
        for (int size = 2; size < 16; size += 2) {
            PaperStars stars = Checks.sheet(size);
            int[] ones = new int[16];
            java.util.Arrays.fill(ones, 1);
            checked(size + ", n is SIZE", stars, size - 1, size, -1, ones);
            checked(size + ", n is above it", stars, size - 1, size + 1, size, ones);
            checked(size + ", n 16", stars, 0, 16, size, ones);
            int[] zeros = new int[16];
            java.util.Arrays.fill(zeros, 0, size, 1);
            checked(size + ", n 16, no paper there", stars, 0, 16, size, zeros);
            ones[size - 1] = 0;
            checked(size + ", n 16, one wrong before it", stars, 0, 16, size - 1, ones);
        }
    }

    private void noCheck() {
        doc.says("-2: no such ones, it has not so many (the tape stays).");
        for (int y : new int[] {LEAST, -2, -1, 4, 5, 15, 16, 256, 65536, MOST}) {
            refusedCheck("row " + y, y, 4, 1);
        }
        for (int n : new int[] {LEAST, -2, -1, 17, 18, 256, 65536, 65540, 1 << 30, MOST}) {
            refusedCheck("n " + n, 1, n, 4);
        }
        // four bytes a number: 5 by 20, 10 by 40, 15 by 60, 20 by 80
        for (int feeds = 0; feeds <= 3; feeds++) {
            int most = 5 * feeds;
            PaperStars stars = Checks.cooked(16, ":c(1=1)");
            for (int i = 0; i < feeds; i++) {
                stars.feed(0, 0, 0, 0, 0);
            }
            doc.due(feeds + " feeds, one more", stars.check(0, most + 1), -2);
            doc.due(feeds + " feeds, n 16", stars.check(0, 16), -2);
            doc.due(feeds + " feeds, the tape stays", stars.count(3), 20 * feeds);
            doc.due(feeds + " feeds, all", stars.check(0, most), -1);
            doc.due(feeds + " feeds, empty then", stars.count(3), 0);
        }
        PaperStars full = Checks.cooked(16, ":c(1=1)");
        for (int i = 0; i < 10; i++) {
            full.feed(0, 0, 0, 0, 0);
        }
        doc.due("200 bytes, n 17", full.check(0, 17), -2);
        doc.due("200 bytes, n 16", full.check(0, 16), -1);
        doc.due("200 bytes, empty then", full.count(3), 0);
    }

    private void refusedCheck(String name, int y, int n, int feeds) {
        PaperStars stars = Checks.cooked(4, "h:s0,1");
        for (int i = 0; i < feeds; i++) {
            stars.feed(0, 1, 1, 0, 0);
        }
        doc.due(name, stars.check(y, n), -2);
        doc.due(name + ", the tape stays", stars.count(3), 20 * feeds);
        doc.due(name + ", the tape stays", stars.check(1, 4), -1);
    }

    private void count() {
        doc.says("0 SIZE, 1 SNIPS, 2 FOLDS, 3 bytes of the tape, 4 X, 5 DEER (how many),"
                + " 6 CELLS WANTED with PAPER;");
        PaperStars stars = Checks.cooked(4, "hvd:s0,0;s1,1");
        stars.want(3, 6);
        stars.deer(0, 0, true);
        stars.deer(1, 0, true);
        stars.deer(2, 0, true);
        stars.deer(3, 0, true);
        stars.seed(8);
        stars.feed(0, 0, 0, 0, 0);
        int[] answers = {4, 2, 3, 20, 8, 4, 14};
        for (int what = 0; what < answers.length; what++) {
            doc.due("count " + what, stars.count(what), answers[what]);
        }
        for (int size = 2; size <= 16; size += 2) {
            doc.says("20 + y row y of WANTED as bits.");
            PaperStars rows = Checks.sheet(size);
            for (int y = 0; y < size; y++) {
                rows.want(y, y + 1 & (1 << size) - 1);
            }
            for (int y = 0; y < size; y++) {
                doc.due(size + " row " + y, rows.count(20 + y), y + 1 & (1 << size) - 1);
            }
            doc.says("NONE for others.");
            doc.due(size + " behind the last row", rows.count(20 + size), -1);
            doc.due(size + " count 19", rows.count(19), -1);
            doc.due(size + " count 36", rows.count(36), -1);
            for (int what : new int[] {LEAST, LEAST + 20, -236, -20, -2, -1, 7, 8, 18, 19, 36, 37,
                256, 276, 65536, 65556, MOST}) {
                doc.due(size + " count " + what, rows.count(what), -1);
            }
        }
    }
}
