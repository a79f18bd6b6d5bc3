/** FOLDS, THE WEDGE and LAYERS; promises 5 and 6. */
final class FoldSentences {
    private final Doc doc;

    private FoldSentences(Doc doc) {
        this.doc = doc;
    }

    static void ask(Doc doc) {
        FoldSentences all = new FoldSentences(doc);
        all.evenOnly();
        all.slanted();
        all.nothingBehind();
        all.whereItComes();
        all.places();
        all.layers();
        all.numbers();
    }

    /** How often 2 goes into a size. */
    private static int halvings(int size) {
        return Integer.numberOfTrailingZeros(size);
    }

    private void evenOnly() {
        for (int size = 2; size <= 16; size += 2) {
            int most = halvings(size);
            for (int times = 0; times <= most + 1; times++) {
                int due = times <= most ? 1 : -3000 - most;
                doc.says("FOLDS, one behind the other, beginning with W = H = SIZE: h (W even): ");
                PaperStars stars = Checks.sheet(size);
                doc.due(size + " h times " + times,
                        Checks.cook(stars, "h".repeat(times) + ":s0,0"), due);
                doc.due(size + " W of it", stars.wedge(0), due == 1 ? size >> times : size);
                doc.due(size + " H of it", stars.wedge(1), size);
                doc.says("v (H even): likewise y by H;");
                PaperStars low = Checks.sheet(size);
                doc.due(size + " v times " + times,
                        Checks.cook(low, "v".repeat(times) + ":s0,0"), due);
                doc.due(size + " W of it", low.wedge(0), size);
                doc.due(size + " H of it", low.wedge(1), due == 1 ? size >> times : size);
            }
        }
    }

    private void slanted() {
        doc.says("d (W = H, 2 at least; nothing comes behind it): ");
        for (int size = 2; size <= 16; size += 2) {
            for (int h = 0; h <= halvings(size); h++) {
                for (int v = 0; v <= halvings(size); v++) {
                    String folds = "h".repeat(h) + "v".repeat(v) + "d";
                    boolean can = h == v && size >> h >= 2;
                    PaperStars stars = Checks.sheet(size);
                    doc.due(size + " " + folds, Checks.cook(stars, folds + ":s0,0"),
                            can ? 1 : -3000 - h - v);
                    doc.due(size + " " + folds + " is d", stars.wedge(5), can ? 1 : 0);
                }
            }
        }
    }

    private void nothingBehind() {
        doc.says("d (W = H, 2 at least; nothing comes behind it): ");
        for (int size = 2; size <= 16; size += 2) {
            for (String letter : new String[] {"h", "v", "d"}) {
                doc.due(size + " d" + letter,
                        Checks.cook(Checks.sheet(size), "d" + letter + ":s0,0"), -3001);
            }
        }
    }

    /** The cells of the sheet that have no paper, as numbers x y. */
    private static String bare(int size, String text) {
        PaperStars stars = Checks.cooked(size, text);
        StringBuilder cells = new StringBuilder();
        for (int y = 0; y < size; y++) {
            for (int x = 0; x < size; x++) {
                if (stars.opened(x, y) == 0) {
                    cells.append(x).append(',').append(y).append(' ');
                }
            }
        }
        return cells.toString().trim();
    }

    private void cut(int size, String text, String cells) {
        doc.due(size + " " + text + " cuts", bare(size, text), cells);
    }

    private void whereItComes() {
        doc.says("what lies at x of W through 2 or more comes to W - 1 - x, W is half then;");
        cut(4, "h:s0,2", "0,2 3,2");
        cut(4, "h:s1,2", "1,2 2,2");
        cut(8, "hh:s0,0", "0,0 3,0 4,0 7,0");
        cut(8, "hh:s1,0", "1,0 2,0 5,0 6,0");
        cut(2, "h:s0,1", "0,1 1,1");
        cut(6, "h:s2,0", "2,0 3,0");
        doc.says("v (H even): likewise y by H;");
        cut(4, "v:s2,0", "2,0 2,3");
        cut(4, "v:s2,1", "2,1 2,2");
        cut(8, "vv:s0,1", "0,1 0,2 0,5 0,6");
        cut(4, "hv:s0,1", "0,1 3,1 0,2 3,2");
        doc.says("what lies at y above x comes to x' = y, y' = x.");
        cut(4, "d:s3,0", "3,0 0,3");
        cut(4, "d:s2,1", "2,1 1,2");
        cut(4, "d:s2,2", "2,2");
        cut(4, "hvd:s1,0", "1,0 2,0 0,1 3,1 0,2 3,2 1,3 2,3");
        cut(2, "d:s1,0", "1,0 0,1");
    }

    private void wedge(int size, String folds, int... answers) {
        PaperStars stars = Checks.cooked(size, folds + ":c(1=1)");
        for (int what = 0; what < answers.length; what++) {
            doc.due(size + " " + folds + " wedge " + what, stars.wedge(what), answers[what]);
        }
    }

    private void places() {
        doc.says("THE WEDGE: W by H places, with d those with y not above x.");
        wedge(16, "", 16, 16, 256, 256, 0, 0);
        wedge(16, "h", 8, 16, 128, 128, 1, 0);
        wedge(16, "vvvv", 16, 1, 16, 16, 4, 0);
        wedge(16, "hhhhvvvv", 1, 1, 1, 1, 8, 0);
        wedge(16, "d", 16, 16, 136, 136, 1, 1);
        wedge(16, "hhhvvvd", 2, 2, 3, 3, 7, 1);
        wedge(2, "d", 2, 2, 3, 3, 1, 1);
        wedge(2, "hv", 1, 1, 1, 1, 2, 0);
        wedge(6, "hvd", 3, 3, 6, 6, 3, 1);
        doc.says("Of the WEDGE, what 0 W, 1 H, 2 how many places, 3 how many of them are cut,"
                + " 4 FOLDS, 5 whether the last one is d (1, 0); NONE for others.");
        PaperStars stars = Checks.cooked(16, "hhvvd:s1,0;s1,0;s3,3");
        int[] answers = {-1, 4, 4, 10, 2, 5, 1, -1};
        for (int i = 0; i < answers.length; i++) {
            doc.due("wedge " + (i - 1), stars.wedge(i - 1), answers[i]);
        }
        doc.due("none cut", Checks.cooked(4, "h:c(1=2)").wedge(3), 0);
        doc.due("all cut, told twice", Checks.cooked(4, "h:r0,0-1,3;r0,0-1,3").wedge(3), 8);
        doc.due("the first is no d", Checks.cooked(4, "h:s0,0").wedge(5), 0);
        for (int what : new int[] {Integer.MIN_VALUE, -2, 7, 8, 256, 65536, Integer.MAX_VALUE}) {
            doc.due("wedge " + what, stars.wedge(what), -1);
        }
    }

    private void layers() {
        String[] folds = {"", "h", "v", "hv", "d", "hvd", "hvhv", "hhvvd", "hhhhvvvv", "hhhvvvd"};
        for (String letters : folds) {
            doc.says("LAYERS of a place: how many CELLS come to it.");
            PaperStars stars = Checks.cooked(16, letters + ":s0,0");
            int w = stars.wedge(0);
            int h = stars.wedge(1);
            int thick = 256 / (w * h);
            int together = 0;
            for (int y = 0; y < h; y++) {
                for (int x = 0; x < w; x++) {
                    boolean isD = letters.endsWith("d");
                    int due = isD && y > x ? -1 : isD && x > y ? 2 * thick : thick;
                    doc.due(letters + " layers " + x + " " + y, stars.layers(x, y), due);
                    together += Math.max(0, due);
                }
            }
            doc.due(letters + " all layers", together, 256);
        }
        doc.due("most layers", Checks.cooked(16, "hhhhvvvv:s0,0").layers(0, 0), 256);
    }

    private void numbers() {
        doc.says("LAYERS of a place; NONE: it is not in the WEDGE.");
        PaperStars stars = Checks.cooked(16, "hhv:s0,0");
        int[][] places = {{0, 0, 8}, {3, 0, 8}, {0, 7, 8}, {3, 7, 8}, {4, 0, -1}, {0, 8, -1},
            {-1, 0, -1}, {0, -1, -1}, {4, 7, -1}, {3, 8, -1}, {15, 15, -1}, {16, 0, -1}, {0, 16, -1},
            {256, 0, -1}, {0, 65536, -1}, {Integer.MIN_VALUE, 0, -1}, {0, Integer.MIN_VALUE, -1},
            {Integer.MAX_VALUE, 0, -1}, {0, Integer.MAX_VALUE, -1}};
        for (int[] place : places) {
            doc.due("layers " + place[0] + " " + place[1], stars.layers(place[0], place[1]),
                    place[2]);
        }
        PaperStars slant = Checks.cooked(8, "d:s0,0");
        doc.due("on the slant", slant.layers(7, 7), 1);
        doc.due("beside it", slant.layers(7, 6), 2);
        doc.due("beyond it", slant.layers(6, 7), -1);
        doc.due("beyond it", slant.layers(0, 1), -1);
        doc.due("beyond the sheet", slant.layers(8, 8), -1);
        doc.due("the corner", slant.layers(7, 0), 2);
    }
}
