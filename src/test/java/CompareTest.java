import java.util.Random;

/** Drawn runs of calls on the class and on SlowStars, with the same seeds every time. */
public final class CompareTest {
    private static final Checks CHECKS = new Checks();
    private static final String SIGNS = "hvd:;srcxywlnz(),-&|!<>=+*/%[]0123456789 A";

    private final Random random;
    private final PaperStars stars = new PaperStars();
    private final SlowStars slow = new SlowStars();
    private final StringBuilder story = new StringBuilder();

    private CompareTest(long seed) {
        random = new Random(seed);
        story.append("seed ").append(seed).append(":");
    }

    public static void main(String[] args) {
        int runs = args.length > 0 ? Integer.parseInt(args[0]) : 1500;
        for (int seed = 0; seed < runs && CHECKS.wrong() < 20; seed++) {
            new CompareTest(seed).run();
        }
        CHECKS.end();
    }

    private void run() {
        if (random.nextInt(4) > 0) {
            int size = 2 + 2 * random.nextInt(random.nextInt(4) == 0 ? 8 : 3);
            due("sheet " + size, stars.sheet(size), slow.sheet(size));
        }
        int calls = 20 + random.nextInt(40);
        for (int i = 0; i < calls && CHECKS.wrong() < 20; i++) {
            callOne();
        }
    }

    private void due(String call, long got, long want) {
        story.append(' ').append(call).append('=').append(want).append(';');
        CHECKS.due(got == want ? call : story.toString(), got, want);
    }

    private void due(String call, boolean got, boolean want) {
        due(call, got ? 1 : 0, want ? 1 : 0);
    }

    private int near(int least, int most) {
        return random.nextInt(12) == 0
                ? (random.nextBoolean() ? least - 1 : most + 1)
                : least + random.nextInt(most - least + 1);
    }

    private int cell() {
        return near(0, slow.size - 1);
    }

    private void callOne() {
        switch (random.nextInt(30)) {
            case 0: case 1: case 2: case 3: case 4:
                cook();
                break;
            case 5: case 6:
                for (int what = -1; what <= 6; what++) {
                    due("wedge " + what, stars.wedge(what), slow.wedge(what));
                }
                break;
            case 7: {
                int x = cell();
                int y = cell();
                due("layers " + x + " " + y, stars.layers(x, y), slow.layers(x, y));
                due("snipped " + x + " " + y, stars.snipped(x, y), slow.snipped(x, y));
                due("opened " + x + " " + y, stars.opened(x, y), slow.opened(x, y));
                break;
            }
            case 8: case 9:
                for (int what = -1; what <= 7; what++) {
                    due("sums " + what, stars.sums(what), slow.sums(what));
                }
                break;
            case 10: {
                int x = cell();
                int y = cell();
                for (int what = -1; what <= 4; what++) {
                    due("piece " + x + " " + y + " " + what, stars.piece(x, y, what),
                            slow.piece(x, y, what));
                }
                break;
            }
            case 11: case 12: {
                int x = cell();
                int y = cell();
                boolean is = random.nextInt(4) > 0;
                due("deer " + x + " " + y + " " + is, stars.deer(x, y, is), slow.deer(x, y, is));
                break;
            }
            case 13: case 14: {
                int want = slow.hang();
                if (want != -9) {
                    due("hang", stars.hang(), want);
                }
                break;
            }
            case 15: case 16:
                want();
                break;
            case 17:
                due("wantOpened", stars.wantOpened(), slow.wantOpened());
                break;
            case 18:
                for (int what = -1; what <= 2; what++) {
                    due("differs " + what, stars.differs(what), slow.differs(what));
                }
                break;
            case 19: case 20: case 21:
                folds();
                break;
            case 22:
                best();
                break;
            case 23: {
                int places = random.nextInt(3) > 0 ? near(0, 6) : near(0, 256);
                for (int what = -2; what <= 3; what++) {
                    due("scraps " + places + " " + what, stars.scraps(places, what),
                            slow.scraps(places, what));
                }
                break;
            }
            case 24:
                strips();
                break;
            case 25: case 26:
                slips();
                break;
            case 27: {
                int tenths = near(0, 10);
                int x = near(0, 65535);
                if (random.nextInt(3) == 0) {
                    due("seed " + x, stars.seed(x), slow.seed(x));
                }
                due("draw " + tenths, stars.draw(tenths), slow.draw(tenths));
                break;
            }
            case 28:
                if (random.nextBoolean()) {
                    due("keep", stars.keep(), slow.keep());
                } else {
                    due("undo", stars.undo(), slow.undo());
                }
                break;
            default:
                check();
                break;
        }
        int what = random.nextInt(40) - 2;
        due("count " + what, stars.count(what), slow.count(what));
        due("tape", stars.count(3), slow.count(3));
    }

    private void feed(int[] bytes) {
        for (int from = 0; from < bytes.length; from += 20) {
            int[] five = new int[5];
            for (int i = 0; i < 20; i++) {
                int value = from + i < bytes.length ? bytes[from + i] : random.nextInt(256);
                five[i / 4] = (five[i / 4] << 8) | value;
            }
            due("feed", stars.feed(five[0], five[1], five[2], five[3], five[4]),
                    slow.feed(five[0], five[1], five[2], five[3], five[4]));
        }
    }

    private void cook() {
        String text = new Texts(random, slow.size).recipe();
        if (random.nextInt(3) == 0) {
            text = spoil(text);
        }
        if (text.length() > 160) {
            text = text.substring(0, 160);
        }
        int[] bytes = new int[text.length()];
        for (int i = 0; i < bytes.length; i++) {
            bytes[i] = text.charAt(i);
        }
        feed(bytes);
        int n = random.nextInt(30) == 0 ? near(1, 160) : text.length();
        due("recipe " + text, stars.recipe(n), slow.recipe(n));
    }

    private String spoil(String text) {
        StringBuilder b = new StringBuilder(text);
        for (int i = random.nextInt(2); i >= 0; i--) {
            int at = random.nextInt(b.length() + 1);
            char sign = SIGNS.charAt(random.nextInt(SIGNS.length()));
            int way = random.nextInt(4);
            if (way == 0) {
                b.insert(at, sign);
            } else if (at < b.length() && way == 1) {
                b.setCharAt(at, sign);
            } else if (at < b.length() && b.length() > 1 && way == 2) {
                b.deleteCharAt(at);
            } else if (at > 0) {
                b.setLength(at);
            }
        }
        return b.toString();
    }

    private void want() {
        for (int i = 0; i < 3; i++) {
            int y = cell();
            int row = random.nextInt(10) == 0 ? random.nextInt() : random.nextInt(1 << slow.size);
            due("want " + y + " " + row, stars.want(y, row), slow.want(y, row));
            if (random.nextBoolean() && y >= 0) {
                int other = slow.size - 1 - y;
                due("want " + other + " " + row, stars.want(other, row), slow.want(other, row));
            }
        }
    }

    private void folds() {
        int a = near(0, 4);
        int b = random.nextBoolean() ? a : near(0, 4);
        int d = near(0, 1);
        String by = " " + a + " " + b + " " + d;
        due("fits" + by, stars.fits(a, b, d), slow.fits(a, b, d));
        due("snips" + by, stars.snips(a, b, d), slow.snips(a, b, d));
        for (int what = -1; what <= 3; what++) {
            due("straight" + by + " " + what, stars.straight(a, b, d, what),
                    slow.straight(a, b, d, what));
        }
    }

    private void best() {
        if (slow.size > 8 && random.nextInt(4) > 0) {
            return;
        }
        for (int what = -1; what <= 5; what++) {
            due("bestFold " + what, stars.bestFold(what), slow.bestFold(what));
        }
    }

    private void strips() {
        int length = random.nextBoolean() ? near(1, 255) : near(8, 30);
        int n = near(1, 9);
        int[] bytes = new int[10];
        for (int i = 0; i < bytes.length; i++) {
            bytes[i] = near(1, Math.max(1, Math.min(length, 254)));
        }
        int what = near(0, 1);
        if (random.nextInt(5) > 0) {
            due("recipe away", stars.recipe(1), slow.recipe(1));
            feed(bytes);
        }
        due("strips " + length + " " + n + " " + what, stars.strips(length, n, what),
                slow.strips(length, n, what));
    }

    private void slips() {
        int folds = slow.letters().length();
        int slips = random.nextInt(10) == 0 ? random.nextInt() : random.nextInt(1 << folds);
        due("spoilt " + slips, stars.spoilt(slips), slow.spoilt(slips));
        int x = cell();
        int y = cell();
        due("slipped " + slips + " " + x + " " + y, stars.slipped(slips, x, y),
                slow.slipped(slips, x, y));
        int tenths = near(0, 10);
        int k = near(0, 8);
        for (int what = -1; what <= 2; what++) {
            due("odds " + tenths + " " + k + " " + what, stars.odds(tenths, k, what),
                    slow.odds(tenths, k, what));
        }
    }

    private void check() {
        int y = cell();
        int n = near(0, 16);
        boolean away = random.nextInt(4) > 0;
        if (away) {
            due("recipe away", stars.recipe(1), slow.recipe(1));
            int wrong = random.nextInt(20);
            int[] bytes = new int[64];
            for (int x = 0; x < 16; x++) {
                bytes[4 * x + 3] = Math.max(0, slow.opened(x, y));
                if (x == wrong) {
                    bytes[4 * x + random.nextInt(4)] ^= 1 << random.nextInt(8);
                }
            }
            feed(bytes);
        }
        due("check " + y + " " + n, stars.check(y, n), slow.check(y, n));
    }
}
