import java.util.function.Function;
import java.util.function.IntFunction;
import java.util.function.Supplier;

/**
 * Every number that a call takes: the last one that is allowed and the first one that is not, at
 * both ends, and numbers far off; a refused call changes nothing, and asking changes nothing.
 */
final class RefusedSentences {
    private final Doc doc;

    private RefusedSentences(Doc doc) {
        this.doc = doc;
    }

    static void ask(Doc doc) {
        doc.says("A call that is refused (NONE, false) changes nothing but the tape,"
                + " where it is told.");
        RefusedSentences all = new RefusedSentences(doc);
        all.sheetCalls();
        all.openedCalls();
        all.wantedCalls();
        all.countedCalls();
        all.slipCalls();
        all.refusedByState();
        all.tapeAlone();
        all.askingAlone();
    }

    private static long number(boolean is) {
        return is ? 1 : 0;
    }

    /** Much is told here: two states, one of them kept, deer, X and a tape of twenty bytes. */
    private static PaperStars rich(boolean withTape) {
        PaperStars stars = new PaperStars();
        stars.sheet(6);
        Checks.cook(stars, "h:s0,1;r1,3-2,3");
        stars.want(2, 21);
        stars.deer(1, 1, true);
        stars.seed(4321);
        stars.keep();
        stars.sheet(4);
        Checks.cook(stars, "hv:s0,0;s1,1");
        stars.want(1, 9);
        stars.want(3, 6);
        stars.deer(2, 1, true);
        stars.deer(0, 3, true);
        stars.seed(77);
        if (withTape) {
            Checks.feed(stars, "d:s3,1;r0,0-2,0;s1,1");
        }
        return stars;
    }

    private static PaperStars rich() {
        return rich(true);
    }

    /** The call is refused with an answer and leaves everything as it is without it. */
    private void refused(String name, Supplier<PaperStars> scene, long answer,
            Function<PaperStars, Long> call) {
        PaperStars stars = scene.get();
        doc.due(name, call.apply(stars), answer);
        doc.due(name + " leaves behind", Look.at(stars), Look.at(scene.get()));
    }

    /** One number of a call, allowed from least to most in the scene; others are refused so. */
    private void ends(String name, int least, int most, long refusal,
            IntFunction<Function<PaperStars, Long>> call) {
        for (int allowed : new int[] {least, most}) {
            long answer = call.apply(allowed).apply(rich());
            doc.due(name + " " + allowed + " answered " + answer, answer != refusal, true);
        }
        int[] far = {least - 1, most + 1, least - 2, most + 2, least - 256, most + 256,
            least - 65536, most + 65536, Integer.MIN_VALUE, Integer.MIN_VALUE + least,
            Integer.MAX_VALUE, Integer.MAX_VALUE - 1};
        for (int number : far) {
            if (number < least || number > most) {
                refused(name + " " + number, RefusedSentences::rich, refusal, call.apply(number));
            }
        }
    }

    private void sheetCalls() {
        for (int size : new int[] {Integer.MIN_VALUE, -2, -1, 0, 1, 3, 15, 17, 18, 32, 260, 65540,
            Integer.MAX_VALUE}) {
            refused("sheet " + size, RefusedSentences::rich, 0, s -> number(s.sheet(size)));
        }
        ends("recipe", 1, 20, -1, n -> s -> (long) s.recipe(n));
        ends("wedge", 0, 5, -1, n -> s -> (long) s.wedge(n));
        ends("layers x", 0, 1, -1, n -> s -> (long) s.layers(n, 0));
        ends("layers y", 0, 1, -1, n -> s -> (long) s.layers(0, n));
        ends("snipped x", 0, 1, -1, n -> s -> (long) s.snipped(n, 0));
        ends("snipped y", 0, 1, -1, n -> s -> (long) s.snipped(0, n));
        ends("count", 0, 6, -1, n -> s -> (long) (n >= 20 && n < 24 ? -1 : s.count(n)));
        ends("count of rows", 20, 23, -1, n -> s -> (long) (n >= 0 && n < 7 ? -1 : s.count(n)));
    }

    private void openedCalls() {
        ends("opened x", 0, 3, -1, n -> s -> (long) s.opened(n, 0));
        ends("opened y", 0, 3, -1, n -> s -> (long) s.opened(0, n));
        ends("sums", 0, 6, -1, n -> s -> (long) s.sums(n));
        ends("piece x", 0, 3, -1, n -> s -> (long) s.piece(n, 1, 0));
        ends("piece y", 0, 3, -1, n -> s -> (long) s.piece(1, n, 0));
        ends("piece what", 0, 3, -1, n -> s -> (long) s.piece(1, 0, n));
        ends("piece what, no paper", 0, 3, -1, n -> s -> (long) s.piece(0, 0, n));
        ends("deer x", 0, 3, 0, n -> s -> number(s.deer(n, 0, true)));
        ends("deer y", 0, 3, 0, n -> s -> number(s.deer(3, n, true)));
    }

    private void wantedCalls() {
        ends("want y", 0, 3, 0, n -> s -> number(s.want(n, 5)));
        ends("want row", 0, 15, 0, n -> s -> number(s.want(2, n)));
        ends("differs", 0, 1, -1, n -> s -> (long) s.differs(n));
        ends("fits a", 0, 2, -1, n -> s -> (long) s.fits(n, 0, 0));
        ends("fits b", 0, 2, -1, n -> s -> (long) s.fits(0, n, 0));
        ends("fits d", 0, 1, -1, n -> s -> (long) s.fits(0, 0, n));
        ends("bestFold", 0, 4, -1, n -> s -> (long) s.bestFold(n));
        ends("snips a", 0, 2, -1, n -> s -> (long) s.snips(n, 0, 0));
        ends("snips b", 0, 2, -1, n -> s -> (long) s.snips(0, n, 0));
        ends("snips d", 0, 1, -1, n -> s -> (long) s.snips(0, 0, n));
        ends("scraps places", 0, 256, -3, n -> s -> (long) s.scraps(n, -1));
        ends("straight what", 0, 2, -1000, n -> s -> {
            s.want(0, 0);
            for (int y = 1; y < 4; y++) {
                s.want(y, 15);
            }
            long answer = s.straight(2, 0, 0, n);
            s.want(0, 15);
            s.want(1, 9);
            s.want(3, 6);
            return answer;
        });
        for (int what : new int[] {-2, -3, -256, Integer.MIN_VALUE}) {
            refused("scraps what " + what, RefusedSentences::rich, -3,
                    s -> (long) s.scraps(0, what));
        }
        refused("scraps, none such", RefusedSentences::rich, -2, s -> (long) s.scraps(200, 0));
        refused("snips, they do not fit", RefusedSentences::rich, -3, s -> (long) s.snips(0, 1, 0));
        refused("straight, no fit", RefusedSentences::rich, -1000,
                s -> (long) s.straight(0, 1, 0, 0));
        refused("fits, it differs", RefusedSentences::rich, -10 - 33,
                s -> (long) s.fits(0, 1, 0));
    }

    private void countedCalls() {
        ends("alike n", 1, 7, -1, n -> s -> s.alike(n, 1));
        ends("alike k", 0, 9, -1, n -> s -> s.alike(3, n));
        ends("strips length", 1, 255, -1, n -> s -> (long) s.strips(n, 1, 0));
        ends("strips n", 1, 10, -1, n -> s -> (long) s.strips(255, n, 0));
        ends("strips what", 0, 1, -1, n -> s -> (long) s.strips(255, 1, n));
        ends("check y", 0, 3, -2, n -> s -> (long) s.check(n, 0));
        ends("check n", 0, 5, -2, n -> s -> (long) s.check(0, n));
    }

    private void slipCalls() {
        ends("slipped slips", 0, 3, -1, n -> s -> (long) s.slipped(n, 0, 0));
        ends("slipped x", 0, 3, -1, n -> s -> (long) s.slipped(3, n, 0));
        ends("slipped y", 0, 3, -1, n -> s -> (long) s.slipped(3, 0, n));
        ends("spoilt", 0, 3, -1, n -> s -> (long) s.spoilt(n));
        ends("odds tenths", 0, 10, -1, n -> s -> s.odds(n, 0, 0));
        ends("odds k", 0, 8, -1, n -> s -> s.odds(5, n, 0));
        ends("odds what", 0, 1, -1, n -> s -> s.odds(5, 0, n));
        ends("seed", 0, 65535, 0, n -> s -> number(s.seed(n)));
        ends("draw", 0, 10, -1, n -> s -> (long) s.draw(n));
    }

    private static PaperStars full() {
        PaperStars stars = rich(false);
        // 160 bytes are a recipe, and forty more come behind them
        Checks.feed(stars, ":c(x=" + "0+".repeat(76) + "01)" + "a".repeat(40));
        return stars;
    }

    private void refusedByState() {
        refused("feed behind 200 bytes", RefusedSentences::full, -1,
                s -> (long) s.feed(-1, 2, -3, 4, -5));
        refused("recipe 161 of 200", RefusedSentences::full, -1, s -> (long) s.recipe(161));
        refused("check 17 of 200", RefusedSentences::full, -2, s -> (long) s.check(0, 17));
        refused("strips 11 of 200", RefusedSentences::full, -1, s -> (long) s.strips(255, 11, 0));
        refused("undo, none kept", PaperStars::new, 0, s -> number(s.undo()));
        refused("recipe of no tape", PaperStars::new, -1, s -> (long) s.recipe(1));
        refused("strips of no tape", PaperStars::new, -1, s -> (long) s.strips(255, 1, 0));
        refused("check of no tape", PaperStars::new, -2, s -> (long) s.check(0, 1));
        refused("deer, it is so", RefusedSentences::rich, 0, s -> number(s.deer(2, 1, true)));
        refused("no deer, it is so", RefusedSentences::rich, 0, s -> number(s.deer(1, 2, false)));
        refused("no deer, it is so", PaperStars::new, 0, s -> number(s.deer(0, 0, false)));
        refused("layers beside d", () -> Checks.cooked(4, "d:s0,0"), -1, s -> (long) s.layers(0, 1));
        refused("snipped beside d", () -> Checks.cooked(4, "d:s0,0"), -1,
                s -> (long) s.snipped(0, 1));
        refused("piece without paper", RefusedSentences::rich, -2, s -> (long) s.piece(0, 0, 0));
        refused("hang of seven", () -> Checks.cooked(14, ":c(x%2=1)"), -3, s -> (long) s.hang());
        refused("snips of 256 places", PaperStars::new, -4, s -> (long) s.snips(0, 0, 0));
    }

    /** Where it is told the tape is empty then, though the call was refused. */
    private void tapeAlone() {
        String[] faults = {"x:s0,0", "hv", ":c(x=123456)", "hhhhh:s0,0", ":c(!!!!!!x=1)", "h:s3,3",
            "hv:s0,0;s1,0;x"};
        int[] answers = {-1000, -1002, -2010, -3002, -5008, -6003, -1013};
        String empty = Look.at(rich(false));
        for (int i = 0; i < faults.length; i++) {
            PaperStars stars = rich(false);
            doc.due("recipe " + faults[i], Checks.cook(stars, faults[i]), answers[i]);
            doc.due("recipe " + faults[i] + " leaves behind", Look.at(stars), empty);
        }
        for (int order : new int[] {0, 11, 255}) {
            PaperStars stars = rich(false);
            stars.feed(order << 24, 0, 0, 0, 0);
            doc.due("strips of " + order, stars.strips(10, 1, 0), -2);
            doc.due("strips of " + order + " leaves behind", Look.at(stars), empty);
        }
        PaperStars strips = rich(false);
        strips.feed(0x01010101, 0, 0, 0, 0);
        doc.due("strips", strips.strips(10, 4, 1), 6);
        doc.due("strips leaves behind", Look.at(strips), empty);
        PaperStars check = rich(false);
        check.feed(9, 9, 9, 9, 9);
        doc.due("check", check.check(0, 5), 0);
        doc.due("check leaves behind", Look.at(check), empty);
        PaperStars none = rich(false);
        none.feed(9, 9, 9, 9, 9);
        doc.due("check of none", none.check(0, 0), -1);
        doc.due("check of none leaves behind", Look.at(none), empty);
    }

    /** Calls that only ask, all of them behind one another. */
    private void askingAlone() {
        PaperStars stars = rich();
        for (int i = 0; i <= 6; i++) {
            stars.wedge(i);
            stars.sums(i);
            stars.count(i);
            stars.count(20 + i);
            stars.bestFold(i);
            stars.differs(i);
            stars.scraps(i, -1);
            stars.scraps(i, 0);
            stars.alike(7, i);
            stars.odds(5, i, 0);
            stars.spoilt(i);
            stars.layers(i, 0);
            stars.snipped(0, i);
            stars.opened(i, 1);
            stars.slipped(3, 1, i);
            stars.piece(i, 1, 2);
            stars.fits(i, 0, 0);
            stars.snips(0, i, 0);
            stars.straight(0, 0, 0, i);
            stars.hang();
        }
        doc.due("asking leaves behind", Look.at(stars), Look.at(rich()));
    }
}
