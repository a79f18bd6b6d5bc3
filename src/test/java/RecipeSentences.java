/** The tape and what a RECIPE may be; promises 3 and 4. */
final class RecipeSentences {
    private static final String TWELVE = ":s0,0" + ";s0,0".repeat(11);

    private final Doc doc;

    private RecipeSentences(Doc doc) {
        this.doc = doc;
    }

    static void ask(Doc doc) {
        RecipeSentences all = new RecipeSentences(doc);
        all.fullTape();
        all.bytesInOrder();
        all.firstBytes();
        all.inPlaceOfTheOneBefore();
        all.faultAnswers();
        all.tapeStays();
        all.longest();
        all.blanks();
        all.parts();
        all.placesAndBoxes();
    }

    private void fullTape() {
        doc.says("Twenty bytes come behind the tape, the highest of each int first:"
                + " how many it has;");
        PaperStars stars = new PaperStars();
        doc.due("empty", stars.count(3), 0);
        for (int i = 1; i <= 10; i++) {
            doc.due("feed " + i, stars.feed(0x3a73302c, 0x30202020, 0, -1, i), 20 * i);
            doc.due("bytes " + i, stars.count(3), 20 * i);
        }
        doc.says("NONE if that would be more than 200.");
        doc.due("feed 11", stars.feed(0x78787878, 0, 0, 0, 0), -1);
        doc.due("feed 12", stars.feed(0x78787878, 0, 0, 0, 0), -1);
        doc.due("bytes", stars.count(3), 200);
        doc.due("the first bytes are as they were", stars.recipe(5), 1);
        doc.due("empty then", stars.count(3), 0);
        doc.due("feed again", stars.feed(0, 0, 0, 0, 0), 20);
    }

    private void bytesInOrder() {
        doc.says("Twenty bytes come behind the tape, the highest of each int first:"
                + " how many it has;");
        PaperStars stars = Checks.sheet(4);
        // d:s3,1;r0,0-2,0;s1,1 has just twenty bytes
        stars.feed(0x643a7333, 0x2c313b72, 0x302c302d, 0x322c303b, 0x73312c31);
        doc.due("twenty bytes", stars.recipe(20), 3);
        doc.due("cut", stars.wedge(3), 5);
        for (int lost = 0; lost < 20; lost++) {
            String text = "d:s3,1;r0,0-2,0;s1,1";
            PaperStars other = Checks.sheet(4);
            Checks.feed(other, text.substring(0, lost) + "\0" + text.substring(lost + 1));
            doc.due("byte " + lost + " is 0", other.recipe(20), -1000 - lost);
        }
        // the text goes over the seam of two and of three feeds
        doc.due("behind the tape", Checks.cook(stars, ":c(x+0+0+0+0+0+0=3-0-0)"), 1);
        doc.due("column 3", stars.snipped(3, 0), 1);
        doc.due("behind the tape",
                Checks.cook(stars, ":c(x+0+0+0+0+0+0+0+0+0+0+0+0+0+0+0+0=2)"), 1);
        doc.due("column 2", stars.snipped(2, 0), 1);
        // bytes above 127 are no negative ones
        PaperStars strips = new PaperStars();
        strips.feed(0xff80fe01, 0x7f000000, 0, 0, 0);
        doc.due("bytes above 127", strips.strips(255, 5, 1), 0);
        PaperStars check = Checks.cooked(4, ":r0,0-3,3");
        check.feed(0, 0, 0x80000000, 0, 0);
        doc.due("the highest byte first", check.check(0, 3), 2);
        check.feed(0, 0x00010000, 0, 0, 0);
        doc.due("the second byte", check.check(0, 3), 1);
    }

    private void firstBytes() {
        doc.says("The RECIPE by the first n bytes of the tape (1 to 160; empty then),");
        PaperStars stars = new PaperStars();
        Checks.feed(stars, ":s0,0;s1,1");
        doc.due("the first 5 of 20", stars.recipe(5), 1);
        doc.due("empty then", stars.count(3), 0);
        doc.due("nothing is left", stars.recipe(1), -1);
        Checks.feed(stars, ":s0,0;s1,1");
        doc.due("the first 10 of 20", stars.recipe(10), 2);
        Checks.feed(stars, ":s0,0");
        doc.due("n 1", stars.recipe(1), -1001);
        doc.due("n 1, empty then", stars.count(3), 0);
        stars.feed(0x643a7333, 0x2c313b72, 0x302c302d, 0x322c303b, 0x73312c31);
        doc.due("n 20 of 20", stars.recipe(20), 3);
        doc.due("n 20 of 20, empty then", stars.count(3), 0);
        Checks.feed(stars, ":c(x=" + "0+".repeat(76) + "10)" + "a".repeat(40));
        doc.due("200 bytes", stars.count(3), 200);
        doc.due("n 160 of 200", stars.recipe(160), 1);
        doc.due("n 160 of 200, empty then", stars.count(3), 0);
        doc.due("n 160 of 200, column 10", stars.snipped(10, 0), 1);
        Checks.feed(stars, ":c(x=" + "0+".repeat(76) + "11)");
        doc.due("n 160 of 160", stars.recipe(160), 1);
        doc.due("n 160 of 160, column 11", stars.snipped(11, 0), 1);
    }

    private void inPlaceOfTheOneBefore() {
        doc.says("in place of the one before: how many SNIPS;");
        PaperStars stars = new PaperStars();
        doc.due("the first", Checks.cook(stars, "hvd:s1,0;s2,2;s3,3"), 3);
        doc.due("snips", stars.count(1), 3);
        doc.due("folds", stars.count(2), 3);
        doc.due("the second", Checks.cook(stars, "v:s15,7"), 1);
        int[] wedge = {16, 8, 128, 1, 1, 0};
        for (int what = 0; what < wedge.length; what++) {
            doc.due("wedge " + what, stars.wedge(what), wedge[what]);
        }
        doc.due("snips", stars.count(1), 1);
        doc.due("folds", stars.count(2), 1);
        doc.due("what was cut is not", stars.opened(1, 0), 1);
        doc.due("what is cut", stars.opened(15, 8), 0);
        doc.due("paper", stars.sums(0), 254);
    }

    private void faultAnswers() {
        String[] texts = {"x", ":c(x=100000)", "hhhhh:s0,0", TWELVE + ";s0,0", ":c(!!!!!!x=0)",
            ":s16,0"};
        int[] answers = {-1000, -2010, -3004, -4061, -5008, -6002};
        for (int i = 0; i < texts.length; i++) {
            doc.says("a FAULT: -1000 times its number, less its place (the one before stays);");
            PaperStars stars = Checks.cooked(16, "hv:s0,0;s1,1");
            doc.due("recipe " + texts[i], Checks.cook(stars, texts[i]), answers[i]);
            doc.due("snips stay", stars.count(1), 2);
            doc.due("folds stay", stars.count(2), 2);
            doc.due("the wedge stays", stars.wedge(2), 64);
            doc.due("what is cut stays", stars.wedge(3), 2);
            doc.due("paper stays", stars.sums(0), 248);
            doc.due("the tape is empty", stars.count(3), 0);
            PaperStars none = new PaperStars();
            doc.due("recipe " + texts[i], Checks.cook(none, texts[i]), answers[i]);
            doc.due("no recipe stays", none.count(1), 0);
            doc.due("no folds stay", none.wedge(2), 256);
        }
        // snips that were read ahead of the fault leave nothing behind
        PaperStars stars = Checks.cooked(4, "h:s0,0");
        doc.due("late fault", Checks.cook(stars, "v:c(1=1);s0,0;s0,2"), -6015);
        doc.due("late fault, cut", stars.wedge(3), 1);
        doc.due("late fault, H", stars.wedge(1), 4);
        doc.due("the next", Checks.cook(stars, ":s3,3"), 1);
        doc.due("the next, cut", stars.wedge(3), 1);
    }

    private void tapeStays() {
        doc.says("NONE: no such n, it has not so many (the tape stays).");
        int[] lengths = {0, 20, 140, 160, 200};
        for (int length : lengths) {
            int[] wrong = {0, -1, -20, Integer.MIN_VALUE, Integer.MAX_VALUE, 161, 200, 201,
                length + 1, 256, 65536 + 5, Integer.MIN_VALUE + 5};
            for (int n : wrong) {
                PaperStars stars = Checks.cooked(16, "hv:s0,0;s1,1");
                if (length > 0) {
                    Checks.feed(stars, ":s0,0" + " ".repeat(length - 5));
                }
                String name = "recipe " + n + " of " + length;
                doc.due(name, stars.recipe(n), -1);
                doc.due(name + " bytes", stars.count(3), length);
                doc.due(name + " snips", stars.count(1), 2);
                doc.due(name + " then the first 5", stars.recipe(5), length > 0 ? 1 : -1);
            }
        }
    }

    private void longest() {
        doc.says("A RECIPE: a TEXT of at most 160 bytes, no blanks ");
        StringBuilder b = new StringBuilder("hv:");
        for (int i = 0; i < 11; i++) {
            b.append("r00,00-01,02;");
        }
        // 3 + 11 * 13 = 146, and 14 more for the last snip
        b.append("c(x+x+x=12345)");
        doc.due("160 bytes", b.length(), 160);
        PaperStars stars = new PaperStars();
        doc.due("160 bytes", Checks.cook(stars, b.toString()), 12);
        doc.due("snips", stars.count(1), 12);
        doc.due("cut", stars.wedge(3), 6);
        Checks.feed(stars, b + " ");
        doc.due("161 bytes", stars.recipe(161), -1);
        doc.due("161 bytes, 160 of them", stars.recipe(160), 12);
    }

    private void blanks() {
        doc.says("A RECIPE: a TEXT of at most 160 bytes, no blanks ");
        String text = "hvd:s1,1;r0,0-2,02;c(!x<12|(y%2=[z-1]*3)&l>0)";
        doc.due("without blanks", Checks.cook(new PaperStars(), text), 3);
        for (int at = 0; at <= text.length(); at++) {
            String with = text.substring(0, at) + " " + text.substring(at);
            doc.due("a blank at " + at, Checks.cook(new PaperStars(), with), -1000 - at);
        }
    }

    private void text(String text, int want) {
        doc.due("recipe " + text, Checks.cook(new PaperStars(), text), want);
    }

    private void parts() {
        doc.says("FOLDS (letters h, v, d; none may be told), a :,");
        text(":s0,0", 1);
        text("h:s0,0", 1);
        text("v:s0,0", 1);
        text("d:s0,0", 1);
        text("s0,0", -1000);
        text("hs0,0", -1001);
        text("::s0,0", -1001);
        text("hvhvhvd:s0,0", 1);
        doc.says("SNIPS (12 at most; one at least) with a ; (59) between two:");
        text(":", -1001);
        text("hv:", -1003);
        text(":s0,0", 1);
        for (int snips = 2; snips <= 12; snips++) {
            text(TWELVE.substring(0, 5 * snips), snips);
        }
        text(TWELVE + ";s0,0", -4061);
        text(":s0,0;", -1006);
        text(":;s0,0", -1001);
        text(":s0,0;;s0,0", -1006);
        text(":s0,0,s0,0", -1005);
        text(":s0,0:s0,0", -1005);
        text(":s0,0s0,0", -1005);
        doc.due("the sign", ';', 59);
    }

    /** The places that are cut, as numbers x y. */
    private static String cut(int size, String text) {
        PaperStars stars = Checks.cooked(size, text);
        StringBuilder places = new StringBuilder();
        for (int y = 0; y < size; y++) {
            for (int x = 0; x < size; x++) {
                if (stars.snipped(x, y) == 1) {
                    places.append(x).append(',').append(y).append(' ');
                }
            }
        }
        return places.toString().trim();
    }

    private void placesAndBoxes() {
        doc.says("s X , Y: that place;");
        doc.due("s", cut(16, ":s0,0"), "0,0");
        doc.due("s", cut(16, ":s15,0"), "15,0");
        doc.due("s", cut(16, ":s0,15"), "0,15");
        doc.due("s", cut(16, ":s15,15"), "15,15");
        doc.due("s by d", cut(16, "d:s15,15"), "15,15");
        doc.says("r X , Y - X , Y: all places from the one to the other one"
                + " (x and y both not less);");
        doc.due("r of one", cut(4, ":r2,1-2,1"), "2,1");
        doc.due("r of a row", cut(4, ":r1,2-3,2"), "1,2 2,2 3,2");
        doc.due("r of a column", cut(4, ":r1,2-1,3"), "1,2 1,3");
        doc.due("r", cut(4, ":r0,1-1,2"), "0,1 1,1 0,2 1,2");
        doc.due("r of all", Checks.cooked(16, ":r0,0-15,15").wedge(3), 256);
        doc.due("r by d", cut(4, "d:r1,0-2,2"), "1,0 2,0 1,1 2,1 2,2");
        doc.due("r by d of all", Checks.cooked(16, "d:r0,0-15,15").wedge(3), 136);
        text(":r2,2-1,3", -6006);
        text(":r2,2-3,1", -6006);
        text(":r2,2-1,1", -6006);
        doc.says("c and (C): all places for which C holds.");
        doc.due("c", cut(4, ":c(x>2)"), "3,0 3,1 3,2 3,3");
        doc.due("c of none", cut(4, ":c(x>3)"), "");
        doc.due("c of all", Checks.cooked(16, ":c(x<16)").wedge(3), 256);
        doc.due("c by d", cut(4, "d:c(x=2)"), "2,0 2,1 2,2");
        doc.says("X, Y are of one or two digits.");
        doc.due("two digits", cut(16, ":s09,08"), "9,8");
        doc.due("two digits", cut(16, ":s10,9"), "10,9");
        doc.due("one digit", cut(16, ":s9,10"), "9,10");
        doc.due("two digits", Checks.cooked(16, ":r00,00-09,00").wedge(3), 10);
        text(":s,0", -1002);
        text(":s0,;", -1004);
        text(":s000,0", -1004);
        text(":s0,000", -1006);
        text(":r0,0-000,0", -1008);
        text(":r0,0-0,000", -1010);
    }
}
