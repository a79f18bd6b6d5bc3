import java.util.function.Consumer;

/** What an object was asked and told before leaves no trace in what it answers now. */
final class AgainSentences {
    /** A recipe for 6 by 6, the rows that are wanted, and a deer. */
    private static final String[] TEXTS = {":c(1=2)", ":r0,2-5,2;s1,5", "h:r1,0-1,5", "hv:s0,0;s1,1",
        ":r1,1-4,4;s0,1", ":c(x%2=1&y>0)", ":c(x+y>0)", ":c(1=1)", "d:c([x+y]%3=1)", "hvd:s1,0"};
    private static final int[][] ROWS = {{63, 63, 63, 63, 63, 63}, {62, 63, 63, 63, 63, 63},
        {33, 63, 63, 63, 63, 33}, {0, 0, 0, 0, 0, 0}, {63, 45, 63, 63, 45, 63}, {1, 3, 7, 15, 31, 63},
        {30, 63, 63, 63, 63, 63}, {63, 63, 63, 51, 51, 63}, {48, 48, 60, 60, 63, 63},
        {21, 42, 21, 42, 21, 42}};
    private static final int[] DEER = {0, 7, 14, 21, 28, 35, 1, 6, 33, 12};

    private final Doc doc;

    private AgainSentences(Doc doc) {
        this.doc = doc;
    }

    static void ask(Doc doc) {
        AgainSentences all = new AgainSentences(doc);
        doc.says("in place of the one before: how many SNIPS;");
        all.pairs("another recipe", stars -> { });
        doc.says("SIZE (then there is no RECIPE, no DEER, all WANTED with PAPER): true;");
        all.pairs("a new sheet", stars -> stars.sheet(6));
        all.pairs("another size between", stars -> {
            stars.sheet(16);
            seen(stars);
            stars.sheet(6);
        });
        doc.says("UNDONE: as they were KEPT last.");
        all.undone();
        doc.says("STRIPS: lengths of orders (1 to 10, of 1 to 255) are cut from strips of a told"
                + " length: the fewest strips; what is left over together.");
        all.strips();
    }

    private static PaperStars begun() {
        return Checks.sheet(6);
    }

    private static void tell(PaperStars stars, int scene) {
        if (Checks.cook(stars, TEXTS[scene]) < 1) {
            throw new IllegalStateException(TEXTS[scene]);
        }
        for (int y = 0; y < 6; y++) {
            stars.want(y, ROWS[scene][y]);
        }
        for (int i = 0; i < DEER.length; i++) {
            stars.deer(DEER[i] % 6, DEER[i] / 6, i == scene);
        }
    }

    /** Some ninety answers. */
    private static String seen(PaperStars stars) {
        StringBuilder seen = new StringBuilder();
        for (int what = 0; what <= 6; what++) {
            seen.append(stars.sums(what)).append(' ').append(stars.wedge(what)).append(' ');
        }
        seen.append("hang ").append(stars.hang()).append(' ');
        for (int cell = 0; cell < 36; cell += 5) {
            for (int what = 0; what <= 3; what++) {
                seen.append(stars.piece(cell % 6, cell / 6, what)).append(' ');
            }
        }
        for (int code = 0; code < 6; code++) {
            int a = code / 3;
            int b = code < 3 ? code / 2 : code / 5 + (code == 4 ? 1 : 0);
            int d = code == 1 || code == 5 ? 1 : 0;
            seen.append("folds ").append(stars.fits(a, b, d)).append(' ');
            seen.append(stars.snips(a, b, d)).append(' ');
            for (int what = 0; what <= 2; what++) {
                seen.append(stars.straight(a, b, d, what)).append(' ');
            }
        }
        for (int what = 0; what <= 4; what++) {
            seen.append("best ").append(stars.bestFold(what)).append(' ');
            seen.append(stars.scraps(what, -1)).append(' ');
        }
        seen.append(stars.differs(0)).append(' ').append(stars.differs(1)).append(' ');
        seen.append(stars.spoilt(0)).append(' ').append(stars.spoilt(1));
        return seen.toString();
    }

    private void pairs(String name, Consumer<PaperStars> between) {
        for (int one = 0; one < TEXTS.length; one++) {
            for (int other = 0; other < TEXTS.length; other++) {
                PaperStars stars = begun();
                tell(stars, one);
                seen(stars);
                between.accept(stars);
                tell(stars, other);
                PaperStars fresh = begun();
                tell(fresh, other);
                doc.due(name + ": " + one + " and then " + other, seen(stars), seen(fresh));
            }
        }
    }

    private void undone() {
        for (int one = 0; one < TEXTS.length; one++) {
            for (int other = 0; other < TEXTS.length; other++) {
                PaperStars stars = begun();
                tell(stars, one);
                String kept = seen(stars);
                stars.keep();
                tell(stars, other);
                seen(stars);
                stars.undo();
                doc.due(one + " kept, then " + other + ", then undone", seen(stars), kept);
            }
        }
    }

    private void strips() {
        PaperStars stars = new PaperStars();
        int[][] orders = {{10, 10, 10}, {1}, {5, 4, 4, 3, 2, 2}, {10, 11}, {1, 1}, {0}, {9, 9}};
        int[][] answers = {{3, 0}, {1, 9}, {2, 0}, {-2, -2}, {1, 8}, {-2, -2}, {2, 2}};
        for (int i = 0; i < orders.length; i++) {
            for (int what = 0; what <= 1; what++) {
                Checks.feed(stars, orders[i]);
                doc.due("strips " + i + " " + what, stars.strips(10, orders[i].length, what),
                        answers[i][what]);
            }
        }
    }
}
