/**
 * Promises 23 and 24 for all folds of all sizes and all their slips. Each cell is followed by
 * itself; one that a fold brings beyond the wedge, as wide and high as it is then, is given up.
 */
public final class SlipsTest {
    private static final Checks CHECKS = new Checks();
    private static final String[] SNIPS = {"c(1=1)", "c(x=0)", "c(y=0|x>1)", "c([x+2*y]%3=1)"};
    private static int beyond = 0;

    public static void main(String[] args) {
        for (int size = 2; size <= 16; size += 2) {
            allFolds(size, "", size, size);
        }
        CHECKS.due("a cell came beyond", beyond > 0, true);
        CHECKS.end();
    }

    private static void allFolds(int size, String letters, int w, int h) {
        allSlips(size, letters);
        if (w == h && w > 1) {
            allSlips(size, letters + "d");
        }
        if (w % 2 == 0) {
            allFolds(size, letters + "h", w / 2, h);
        }
        if (h % 2 == 0) {
            allFolds(size, letters + "v", w, h / 2);
        }
    }

    private static void allSlips(int size, String letters) {
        for (int kind = 0; kind < SNIPS.length; kind++) {
            PaperStars stars = null;
            for (int slips = 0; slips < 1 << letters.length(); slips++) {
                // an object is good for 512 calls, and one slip asks 65 at most
                if (slips % 4 == 0) {
                    stars = Checks.cooked(size, letters + ":" + SNIPS[kind]);
                }
                oneSlip(stars, size, letters, kind, slips);
            }
        }
    }

    private static void oneSlip(PaperStars stars, int size, String letters, int kind, int slips) {
        String name = size + " " + letters + ":" + SNIPS[kind] + " slips " + slips;
        int unlike = 0;
        for (int y = 0; y < size; y++) {
            for (int x = 0; x < size; x++) {
                boolean with = isCut(size, letters, kind, slips, x, y);
                boolean without = isCut(size, letters, kind, 0, x, y);
                unlike += with != without ? 1 : 0;
                // one cell in seven of the large sheets is enough: spoilt counts them all
                if (size <= 8 || (16 * y + x + slips) % 7 == 0) {
                    CHECKS.due(name + " cell " + x + " " + y, stars.slipped(slips, x, y),
                            with ? 0 : 1);
                }
            }
        }
        CHECKS.due(name + " spoilt", stars.spoilt(slips), unlike);
    }

    private static boolean isCut(int size, String letters, int kind, int slips, int x, int y) {
        int w = size;
        int h = size;
        for (int i = 0; i < letters.length(); i++) {
            int slip = (slips >> i) & 1;
            char letter = letters.charAt(i);
            if (letter == 'h') {
                x = x < w / 2 ? x : w - 1 - x + slip;
                w /= 2;
            } else if (letter == 'v') {
                y = y < h / 2 ? y : h - 1 - y + slip;
                h /= 2;
            } else if (y > x) {
                int low = x + slip;
                x = y;
                y = low;
            }
            if (x >= w || y >= h) {
                beyond++;
                return false;
            }
        }
        return holds(kind, x, y);
    }

    private static boolean holds(int kind, int x, int y) {
        switch (kind) {
            case 0:
                return true;
            case 1:
                return x == 0;
            case 2:
                return y == 0 || x > 1;
            default:
                return (x + 2 * y) % 3 == 1;
        }
    }
}
