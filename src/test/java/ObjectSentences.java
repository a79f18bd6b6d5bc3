/** Promises 1 and 2, the sheet, and what is said of an object as a whole. */
final class ObjectSentences {
    private final Doc doc;

    private ObjectSentences(Doc doc) {
        this.doc = doc;
    }

    static void ask(Doc doc) {
        ObjectSentences all = new ObjectSentences(doc);
        all.lastCall();
        all.constants();
        all.newObject();
        all.sizes();
        all.cells();
        all.newSheet();
        all.sameSize();
        all.ownMemory();
    }

    private void lastCall() {
        doc.says("An object is used for at most 512 calls after it has been made;"
                + " what later calls answer is free.");
        PaperStars stars = new PaperStars();
        stars.sheet(4);
        stars.feed(0x68763a73, 0x302c303b, 0x73312c31, 0, 0);
        doc.due("call 3", stars.recipe(12), 2);
        for (int call = 4; call <= 508; call += 4) {
            doc.due("call " + call, stars.hang(), 3);
            doc.due("a call behind " + call, stars.keep(), 8);
            doc.due("a call behind " + call, stars.draw(10), 3);
            doc.due("a call behind " + call, stars.undo(), true);
        }
        doc.due("call 512", stars.sums(1), 4);
    }

    private void constants() {
        doc.says("The constants: `NONE = -1`: There is none.");
        doc.due("NONE", PaperStars.NONE, -1);
    }

    private void newObject() {
        doc.says("SIZE 16, no RECIPE, no DEER, all WANTED with PAPER; THE SEED 1.");
        PaperStars stars = new PaperStars();
        int[] counts = {16, 0, 0, 0, 1, 0, 256};
        for (int what = 0; what < counts.length; what++) {
            doc.due("count " + what, stars.count(what), counts[what]);
        }
        for (int y = 0; y < 16; y++) {
            doc.due("wanted row " + y, stars.count(20 + y), 65535);
        }
        doc.due("differs", stars.differs(0), 0);
        doc.due("a deer that there is not", stars.deer(0, 0, false), false);
        doc.due("none kept", stars.undo(), false);
        doc.says("(none at first: no FOLDS, no SNIPS)");
        int[] wedge = {16, 16, 256, 0, 0, 0};
        for (int what = 0; what < wedge.length; what++) {
            doc.due("wedge " + what, stars.wedge(what), wedge[what]);
        }
        doc.due("layers of the last place", stars.layers(15, 15), 1);
        doc.due("snipped", stars.snipped(15, 15), 0);
        doc.due("paper", stars.sums(0), 256);
        doc.due("no fold, so no slip", stars.draw(10), 0);
    }

    private static boolean isSize(int size) {
        return size >= 2 && size <= 16 && size % 2 == 0;
    }

    private void sizes() {
        doc.says("(SIZE 2, 4, .. 16; 16 at first; ");
        doc.due("at first", new PaperStars().count(0), 16);
        for (int size = -70; size <= 70; size++) {
            PaperStars stars = new PaperStars();
            doc.due("sheet " + size, stars.sheet(size), isSize(size));
            doc.due("count 0 behind sheet " + size, stars.count(0), isSize(size) ? size : 16);
        }
        for (int size : new int[] {Integer.MIN_VALUE, Integer.MIN_VALUE + 4, -65532, 256, 260,
            65536 + 8, Integer.MAX_VALUE - 1, Integer.MAX_VALUE}) {
            PaperStars stars = new PaperStars();
            doc.due("sheet " + size, stars.sheet(size), false);
            doc.due("count 0 behind sheet " + size, stars.count(0), 16);
        }
    }

    private void cells() {
        for (int size = 2; size <= 16; size += 2) {
            doc.says("THE SHEET: SIZE by SIZE CELLS x, y ");
            PaperStars stars = Checks.sheet(size);
            for (int y = -1; y <= size; y++) {
                for (int x = -1; x <= size; x++) {
                    boolean inside = x >= 0 && x < size && y >= 0 && y < size;
                    doc.due(size + " opened " + x + " " + y, stars.opened(x, y), inside ? 1 : -1);
                }
            }
            doc.says("number of a CELL: 16 y and x).");
            int last = size - 1;
            PaperStars one = Checks.cooked(size, ":c(!(x=z-1&y=z-1))");
            doc.due(size + " last cell", one.piece(last, last, 0), 17 * last);
            PaperStars right = Checks.cooked(size, ":c(!(x=z-1&y=0))");
            doc.due(size + " right cell", right.piece(last, 0, 0), last);
            PaperStars low = Checks.cooked(size, ":c(!(x=0&y=z-1))");
            doc.due(size + " lower cell", low.piece(0, last, 0), 16 * last);
        }
    }

    /** A sheet with all that a new SIZE takes away, and the rest. */
    private static PaperStars used() {
        PaperStars stars = Checks.cooked(8, "hvd:s1,0;s2,2");
        stars.deer(1, 1, true);
        stars.want(0, 5);
        stars.seed(77);
        stars.keep();
        stars.feed(1, 2, 3, 4, 5);
        return stars;
    }

    private void newSheet() {
        for (int size = 2; size <= 16; size += 2) {
            doc.says("SIZE (then there is no RECIPE, no DEER, all WANTED with PAPER): true;");
            PaperStars stars = used();
            doc.due("sheet " + size, stars.sheet(size), true);
            int[] counts = {size, 0, 0, 20, 77, 0, size * size};
            for (int what = 0; what < counts.length; what++) {
                doc.due(size + " count " + what, stars.count(what), counts[what]);
            }
            int[] wedge = {size, size, size * size, 0, 0, 0};
            for (int what = 0; what < wedge.length; what++) {
                doc.due(size + " wedge " + what, stars.wedge(what), wedge[what]);
            }
            doc.due(size + " paper", stars.sums(0), size * size);
            doc.due(size + " hang", stars.hang(), 0);
            doc.says("(all have at first, also by another SIZE)");
            for (int y = 0; y < size; y++) {
                doc.due(size + " wanted row " + y, stars.count(20 + y), (1 << size) - 1);
            }
            doc.due(size + " the row behind the last", stars.count(20 + size), -1);
            doc.due(size + " differs", stars.differs(0), 0);
            doc.due(size + " what was kept stays kept", stars.undo(), true);
            doc.due(size + " what was kept stays kept", stars.count(20), 5);
        }
        doc.says("false: no such one.");
        PaperStars stars = used();
        doc.due("sheet 18", stars.sheet(18), false);
        int[] counts = {8, 2, 3, 20, 77, 1, 58};
        for (int what = 0; what < counts.length; what++) {
            doc.due("refused, count " + what, stars.count(what), counts[what]);
        }
    }

    private void sameSize() {
        doc.says("SIZE (then there is no RECIPE, no DEER, all WANTED with PAPER): true;");
        PaperStars stars = used();
        doc.due("the same size", stars.sheet(8), true);
        doc.due("no snips", stars.count(1), 0);
        doc.due("no folds", stars.count(2), 0);
        doc.due("no deer", stars.count(5), 0);
        doc.due("all wanted", stars.count(6), 64);
        doc.due("all paper", stars.sums(0), 64);
    }

    private void ownMemory() {
        doc.says("All memory is the table's own.");
        PaperStars one = used();
        String before = Look.at(used());
        PaperStars other = new PaperStars();
        other.sheet(4);
        Checks.cook(other, "hv:s0,0;s1,1;c(x=y)");
        other.hang();
        other.snips(0, 0, 0);
        other.fits(1, 1, 1);
        other.want(0, 9);
        other.deer(2, 2, true);
        other.seed(999);
        other.keep();
        other.feed(-1, -1, -1, -1, -1);
        doc.due("one object stays as it is while another is used", Look.at(one), before);
        doc.due("the other one's tape", other.count(3), 20);
        doc.due("the other one's X", other.count(4), 999);
        doc.due("the other one's snips", other.count(1), 3);
    }
}
