/** What a condition C holds for: its parts, its numbers, 32 bits, and what is divided by 0. */
final class ReckonSentences {
    private static final String ALL = "01234567";
    /** 2147483647, the most that 32 bits have. */
    private static final String MOST = "[32768*65535+32767]";
    /** -2147483648, the least. */
    private static final String LEAST = "[32768*65536]";

    private final Doc doc;

    private ReckonSentences(Doc doc) {
        this.doc = doc;
    }

    static void ask(Doc doc) {
        ReckonSentences all = new ReckonSentences(doc);
        all.partsAndPieces();
        all.relations();
        all.termsAndFactors();
        all.letters();
        all.wraps();
        all.asTheMachineDivides();
        all.dividedByNothing();
        all.asMuchAsMatters();
    }

    /** For which x of row 3 a condition holds, on a sheet of 8 without folds. */
    private void holds(String condition, String want) {
        PaperStars stars = Checks.cooked(8, ":c(" + condition + ")");
        StringBuilder got = new StringBuilder();
        for (int x = 0; x < 8; x++) {
            if (stars.snipped(x, 3) == 1) {
                got.append(x);
            }
        }
        doc.due(condition + " holds for", got.toString(), want);
    }

    private void always(String condition) {
        holds(condition, ALL);
    }

    private void never(String condition) {
        holds(condition, "");
    }

    private void partsAndPieces() {
        doc.says("C: PARTS with a | between two, one of which must hold;");
        holds("x=1|x=3", "13");
        holds("x=1|x=3|x=7", "137");
        holds("x=1|x=1", "1");
        never("x=8|x=9|x=10");
        doc.says("a PART: PIECES with an & between two, all of which must;");
        holds("x>1&x<4", "23");
        holds("x>1&x<6&!x=4", "235");
        never("x=1&x=2");
        holds("x=1|x=2&y=9", "1");
        holds("y=9&x=2|x=1", "1");
        holds("x=1|x=2&y=3", "12");
        doc.says("a PIECE: !PIECE, (C), or E, one of < > =, and E.");
        holds("!x=1", "0234567");
        holds("!!x=1", "1");
        holds("!!!!!x=1", "0234567");
        holds("(x=1|x=2)&y=3", "12");
        never("(x=1|x=2)&y=9");
        holds("!(x=1|x=2)", "034567");
        holds("!x=1&x<3", "02");
        holds("!x<3|x=0", "034567");
        holds("!(!(x=1))", "1");
    }

    private void relations() {
        doc.says("a PIECE: !PIECE, (C), or E, one of < > =, and E.");
        holds("x<1", "0");
        never("x<0");
        holds("x>6", "7");
        never("x>7");
        holds("x=7", "7");
        holds("x=0", "0");
        never("x=8");
        always("0-1<0");
        never("0-1>0");
        always(LEAST + "<" + MOST);
        always(MOST + ">" + LEAST);
        never(LEAST + "=" + MOST);
    }

    private void termsAndFactors() {
        doc.says("E: TERMS with + or - between two; a TERM: FACTORS with one of * / % between two;"
                + " from the left on;");
        holds("x=1+2+3", "6");
        holds("x=7-2-3", "2");
        holds("x=7-2+1", "6");
        holds("x=1+2*3", "7");
        holds("x=2*3-1", "5");
        holds("x=16/4/2", "2");
        holds("x=7/2*2", "6");
        holds("x=2*7/2", "7");
        holds("x=15%8%4", "3");
        holds("x=7%4*2", "6");
        holds("x=2*7%4", "2");
        holds("x=20/6%2", "1");
        doc.says("a FACTOR: [E], a number of one to five digits, or a letter:");
        holds("x=7-[2-1]", "6");
        holds("[1+2]*2=x", "6");
        holds("x=[[[[[5]]]]]", "5");
        holds("x=16/[4/2]-1", "7");
        holds("x=0", "0");
        holds("x=00007", "7");
        holds("x=99999-99998", "1");
        always("99999+1=50000*2");
        always("10000*10=99999+1");
    }

    private void letters() {
        doc.says("x, y the place, w, h the WEDGE's W and H, l LAYERS, n the SNIP (0 on), z SIZE.");
        PaperStars place = Checks.cooked(16, ":c(x=15&y=14)");
        doc.due("x, y", place.snipped(15, 14), 1);
        doc.due("x, y", place.wedge(3), 1);
        doc.due("w, h without folds", Checks.cooked(16, ":c(w=16&h=16)").wedge(3), 256);
        doc.due("w, h by hhv", Checks.cooked(16, "hhv:c(w=4&h=8)").wedge(3), 32);
        doc.due("w, h of one place", Checks.cooked(2, "hv:c(w=1&h=1)").wedge(3), 1);
        doc.due("z", Checks.cooked(16, "hhv:c(z=16)").wedge(3), 32);
        doc.due("z", Checks.cooked(2, "hv:c(z=2)").wedge(3), 1);
        doc.due("l without folds", Checks.cooked(16, ":c(l=1)").wedge(3), 256);
        doc.due("l of one place", Checks.cooked(16, "hhhhvvvv:c(l=256)").wedge(3), 1);
        doc.due("l on the slant", Checks.cooked(16, "hvd:c(l=4)").wedge(3), 8);
        doc.due("l beside it", Checks.cooked(16, "hvd:c(l=8)").wedge(3), 28);
        PaperStars snips = Checks.cooked(16, ":c(x=n&y=0);s0,1;c(x=n&y=0)" + ";s0,1".repeat(8)
                + ";c(x=n&y=0)");
        doc.due("twelve snips", snips.count(1), 12);
        for (int x = 0; x < 16; x++) {
            doc.due("n " + x, snips.snipped(x, 0), x == 0 || x == 2 || x == 11 ? 1 : 0);
        }
    }

    private void wraps() {
        doc.says("All is reckoned with 32 bits, as the machine does;");
        always(MOST + ">0");
        always(LEAST + "<0");
        always(MOST + "+1=" + LEAST);
        always(LEAST + "-1=" + MOST);
        always("0-" + LEAST + "=" + LEAST);
        always("0-" + MOST + "-1=" + LEAST);
        always(MOST + "+" + MOST + "=0-2");
        always(LEAST + "+" + LEAST + "=0");
        always("65536*65536=0");
        always("65536*32767>0");
        always("65536*32768<0");
        always("65535*65537=0-1");
        // 9999800001 less two times 4294967296
        always("99999*99999=14098*10000*10+65409");
        always(MOST + "*" + MOST + "=1");
        always(LEAST + "*" + LEAST + "=0");
        always(LEAST + "*[0-1]=" + LEAST);
        always(MOST + "*2=0-2");
    }

    private void asTheMachineDivides() {
        doc.says("All is reckoned with 32 bits, as the machine does;");
        always("[0-7]/2=0-3");
        always("7/[0-2]=0-3");
        always("[0-7]/[0-2]=3");
        always("[0-7]%4=0-3");
        always("7%[0-4]=3");
        always("[0-7]%[0-4]=0-3");
        always("[0-1]/2=0");
        always(LEAST + "/[0-1]=" + LEAST);
        always(LEAST + "%[0-1]=0");
        always(LEAST + "/1=" + LEAST);
        always(LEAST + "/" + LEAST + "=1");
        always(MOST + "/" + LEAST + "=0");
        always(LEAST + "/" + MOST + "=0-1");
        always(LEAST + "%" + MOST + "=0-1");
        always("0/5=0");
        always("0%5=0");
        always("5%1=0");
    }

    private void dividedByNothing() {
        doc.says("what is divided by 0 is REFUSED: then a C does not hold.");
        never("1/0=1");
        never("1%0=1");
        never("0/0=0");
        never("0%0=0");
        never("1/0<1");
        never("1/0>1");
        never("1=1/0");
        never("!1/0=1");
        never("!1%0=0");
        never("!(1/0=1)");
        never("!!(1/0=1)");
        never("(1/0=1)|1=1");
        never("1/0=1|1=1");
        never("1=1&1/0=1");
        never("0*[1/0]=0");
        never("1/[1/0]=0");
        never("1+2/[3-3]=1");
        never("1/[x-x]=0");
        never("1/[65536*65536]=0");
        holds("6/x=2", "3");
        holds("6/x<2", "4567");
        holds("!6/x<2", "123");
        holds("6%x=0", "1236");
        holds("1/[x-3]=0", "01567");
        // another snip may cut the place all the same
        PaperStars stars = Checks.cooked(8, ":c(1/0=1);c(x=1);c(1%0=0)");
        doc.due("the next snip", stars.wedge(3), 8);
        doc.due("snips", stars.count(1), 3);
        doc.due("paper where it is refused", Checks.cooked(2, ":c(1/0=1)").sums(0), 4);
    }

    private void asMuchAsMatters() {
        doc.says("Of a C as much is asked, from the left, as matters.");
        always("1=1|1/0=1");
        always("1=2|1=1|1/0=1");
        always("1=1|1/0=1|1/0=2");
        always("1=1|1=1&1/0=1");
        always("1=1&1=1|1/0=1");
        holds("x=0|1/x=1", "01");
        holds("1/x=1|x=0", "1");
        never("1=2&1/0=1");
        never("1=1&1=2&1/0=1");
        holds("1=2&1/0=1|x=4", "4");
        holds("1=2&1/0=1&1/0=2|x=4", "4");
        holds("x>0&4/x=2", "2");
        holds("!x=0&4/x=2", "2");
        holds("!(x=0|4/x=2)", "134567");
        holds("!(x>0&4/x=2)", "0134567");
        holds("(x=0|4/x=2)&x<2", "0");
        holds("(x=0&1/0=1)|x=5", "5");
        holds("((1=1|1/0=1)&x=6)|x=5", "56");
        // both sides of a relation matter, and all factors of a term
        never("0*1/0=0");
        never("1<2+1/0");
    }
}
