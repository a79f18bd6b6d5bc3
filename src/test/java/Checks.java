/** Counts answers that are not as due, and makes feeding of texts short. */
final class Checks {
    private int asked = 0;
    private int wrong = 0;

    void due(String call, long got, long want) {
        asked++;
        if (got != want) {
            wrong++;
            if (wrong <= 40) {
                System.out.println(call + " answered " + got + ", due is " + want);
            }
        }
    }

    void due(String call, boolean got, boolean want) {
        due(call, got ? 1 : 0, want ? 1 : 0);
    }

    int wrong() {
        return wrong;
    }

    /** Ends the test with exit code 1 if an answer was wrong. */
    void end() {
        System.out.println(asked + " answers asked, " + wrong + " not as due");
        if (wrong != 0) {
            System.exit(1);
        }
    }

    /** Feeds bytes, with 'a' behind them till they are a multiple of twenty. */
    static int feed(PaperStars stars, int[] bytes) {
        int answer = 0;
        for (int from = 0; from < bytes.length; from += 20) {
            int[] five = new int[5];
            for (int i = 0; i < 20; i++) {
                int value = from + i < bytes.length ? bytes[from + i] & 255 : 'a';
                five[i / 4] = (five[i / 4] << 8) | value;
            }
            answer = stars.feed(five[0], five[1], five[2], five[3], five[4]);
        }
        return answer;
    }

    static int feed(PaperStars stars, String text) {
        int[] bytes = new int[text.length()];
        for (int i = 0; i < bytes.length; i++) {
            bytes[i] = text.charAt(i);
        }
        return feed(stars, bytes);
    }

    static int cook(PaperStars stars, String text) {
        feed(stars, text);
        return stars.recipe(text.length());
    }

    static PaperStars sheet(int size) {
        PaperStars stars = new PaperStars();
        stars.sheet(size);
        return stars;
    }

    static PaperStars cooked(int size, String text) {
        PaperStars stars = sheet(size);
        if (cook(stars, text) < 1) {
            throw new IllegalStateException(text);
        }
        return stars;
    }

    /** Wants a pattern written out: # is paper. */
    static void wantRows(PaperStars stars, String... rows) {
        for (int y = 0; y < rows.length; y++) {
            int bits = 0;
            for (int x = 0; x < rows[y].length(); x++) {
                if (rows[y].charAt(x) == '#') {
                    bits |= 1 << x;
                }
            }
            if (!stars.want(y, bits)) {
                throw new IllegalStateException(rows[y]);
            }
        }
    }

    /** A sheet as large as the pattern that it wants. */
    static PaperStars wanted(String... rows) {
        PaperStars stars = sheet(rows.length);
        wantRows(stars, rows);
        return stars;
    }
}
