/** FAULTS of a recipe: which one, where, and which of several. */
final class FaultSentences {
    private static final String DIGITS = "0123456789";
    private static final String LETTERS = "xywhlnz";
    private static final String SIGNS = "+-*/%";
    private static final String PIECE = "(![" + DIGITS + LETTERS;
    private static final String FACTOR = "[" + DIGITS + LETTERS;

    private final Doc doc;

    private FaultSentences(Doc doc) {
        this.doc = doc;
    }

    static void ask(Doc doc) {
        FaultSentences all = new FaultSentences(doc);
        all.whatCanStand();
        all.theEnd();
        all.thirdDigit();
        all.sixthDigit();
        all.folds();
        all.thirteenth();
        all.openOnes();
        all.placesInTheWedge();
        all.otherPlaces();
        all.whenAsked();
        all.theFirst();
        all.farPlaces();
    }

    private void text(int size, String text, int want) {
        doc.due("size " + size + " recipe " + text, Checks.cook(Checks.sheet(size), text), want);
    }

    private void text(String text, int want) {
        text(16, text, want);
    }

    /** Behind some signs just these can stand: all 256 are tried. */
    private void stands(String before, String signs) {
        for (int sign = 0; sign < 256; sign++) {
            int answer = Checks.cook(new PaperStars(), before + (char) sign);
            boolean can = signs.indexOf(sign) >= 0;
            doc.due("sign " + sign + " behind " + before + " answered " + answer,
                    answer == -1000 - before.length(), !can);
        }
    }

    private void whatCanStand() {
        doc.says("FAULTS, the first from the left: 1 what can't stand there (the end, too;");
        stands("", "hvd:");
        stands("h", "hvd:");
        stands("d", "hvd:");
        stands(":", "src");
        stands(":s", DIGITS);
        stands(":s1", DIGITS + ",");
        stands(":s12", ",");
        stands(":s1,", DIGITS);
        stands(":s1,1", DIGITS + ";");
        stands(":s1,12", ";");
        stands(":s1,1;", "src");
        stands(":r", DIGITS);
        stands(":r1,1", DIGITS + "-");
        stands(":r1,12", "-");
        stands(":r1,1-", DIGITS);
        stands(":r1,1-1", DIGITS + ",");
        stands(":r1,1-1,", DIGITS);
        stands(":r1,1-1,1", DIGITS + ";");
        stands(":r1,1-1,12", ";");
        stands(":c", "(");
        stands(":c(", PIECE);
        stands(":c((", PIECE);
        stands(":c(!", PIECE);
        stands(":c([", FACTOR);
        stands(":c(x", SIGNS + "<>=");
        stands(":c(1", DIGITS + SIGNS + "<>=");
        stands(":c(12345", DIGITS + SIGNS + "<>=");
        stands(":c([x", SIGNS + "]");
        stands(":c([1", DIGITS + SIGNS + "]");
        stands(":c([x]", SIGNS + "<>=");
        for (char sign : SIGNS.toCharArray()) {
            stands(":c(x" + sign, FACTOR);
            stands(":c(x=y" + sign, FACTOR);
        }
        for (char sign : "<>=".toCharArray()) {
            stands(":c(x" + sign, FACTOR);
        }
        stands(":c(x=y", SIGNS + "&|)");
        stands(":c(x=1", DIGITS + SIGNS + "&|)");
        stands(":c(x=[y", SIGNS + "]");
        stands(":c(x=[y]", SIGNS + "&|)");
        stands(":c(!x=y", SIGNS + "&|)");
        stands(":c(x=y&", PIECE);
        stands(":c(x=y|", PIECE);
        stands(":c((x=y)", "&|)");
        stands(":c(!(x=y)", "&|)");
        stands(":c(x=y)", ";");
        stands(":c(x=y);", "src");
    }

    private void theEnd() {
        doc.says("FAULTS, the first from the left: 1 what can't stand there (the end, too;");
        String text = "hvd:s7,06;r1,1-7,03;c(!x+10<[y*2]%3|(z>w)&12345=l)";
        for (int length = 1; length <= text.length(); length++) {
            int want = -1000 - length;
            if (length == 8 || length == 9) {
                want = 1;
            } else if (length == 18) {
                // r1,1-7,0: the other Y is less, and its digits end here
                want = -6015;
            } else if (length == 19) {
                want = 2;
            } else if (length == text.length()) {
                want = 3;
            }
            text(text.substring(0, length), want);
        }
    }

    private void thirdDigit() {
        doc.says("a third digit of X or Y is one);");
        text(":s123,0", -1004);
        text(":s000,0", -1004);
        text(":s15,000", -1007);
        text(":s0,012", -1006);
        text(":r000,0-1,1", -1004);
        text(":r0,001-1,1", -1006);
        text(":r0,0-001,1", -1008);
        text(":r0,0-1,001", -1010);
        text(":s00,00", 1);
        text(":r00,00-01,01", 1);
    }

    private void sixthDigit() {
        doc.says("2 a sixth digit, at it;");
        text(":c(x=12345)", 1);
        text(":c(x=99999)", 1);
        text(":c(x=00000)", 1);
        text(":c(x=123456)", -2010);
        text(":c(x=000000)", -2010);
        text(":c(x=1234567)", -2010);
        text(":c(123456=x)", -2008);
        text(":c([123456]=x)", -2009);
        text(":c(1=12345+123456)", -2016);
        text(":c(x=123456", -2010);
        text(":c(x=12345a", -1010);
        text(":c(x=12345", -1010);
    }

    private void folds() {
        doc.says("3 a FOLD that can't be, at its letter;");
        text("hhhhh:s0,0", -3004);
        text("hhhhvvvvv:s0,0", -3008);
        text("hhhhvvvvh:s0,0", -3008);
        text("hhhhvvvvd:s0,0", -3008);
        text("hd:s0,0", -3001);
        text("vd:s0,0", -3001);
        text("dd:s0,0", -3001);
        text("hvdh:s0,0", -3003);
        text("hhhhh", -3004);
        text("hhhhhx", -3004);
        text("hhhhxh", -1004);
        text(2, "hh:s0,0", -3001);
        text(2, "hvd:s0,0", -3002);
        text(2, "d:s0,0", 1);
        text(6, "hh:s0,0", -3001);
        text(10, "vv:s0,0", -3001);
        text(12, "hhh:s0,0", -3002);
        text(14, "hvh:s0,0", -3002);
        text(8, "hhhh:s0,0", -3003);
    }

    private void thirteenth() {
        doc.says("4 a 13th SNIP, at its letter (if that can stand there);");
        String twelve = "hv:s0,0" + ";s0,0".repeat(11);
        text(twelve, 12);
        text(twelve + ";", -1063);
        text(twelve + ";s", -4063);
        text(twelve + ";r", -4063);
        text(twelve + ";c", -4063);
        text(twelve + ";s0,0", -4063);
        text(twelve + ";s99,99", -4063);
        text(twelve + ";x", -1063);
        text(twelve + ";;", -1063);
        text(twelve + ";h", -1063);
        text(twelve + "s", -1062);
        String conditions = ":c(x=1)" + ";c(x=1)".repeat(11);
        text(conditions, 12);
        text(conditions + ";c(x=1)", -4085);
        String boxes = ":r0,0-1,1" + ";r0,0-1,1".repeat(11);
        text(boxes, 12);
        text(boxes + ";r0,0-1,1", -4109);
    }

    private void openOnes() {
        doc.says("5 a seventh of ( [ ! that are open in one another, at it"
                + " (the ( of the SNIP counts;");
        text(":c((((((x=0))))))", 1);
        text(":c(((((((x=0)))))))", -5008);
        text(":c(!!!!!x=0)", 1);
        text(":c(!!!!!!x=0)", -5008);
        text(":c([[[[[x]]]]]=0)", 1);
        text(":c([[[[[[x]]]]]]=0)", -5008);
        text(":c(0=[[[[[x]]]]])", 1);
        text(":c(0=[[[[[[x]]]]]])", -5010);
        text(":c(!(!([x]=0)))", 1);
        text(":c(!(!([[x]]=0)))", -5008);
        text(":c(!(!(!(x=0))))", -5008);
        text(":c(!(!((!x=0))))", -5008);
        text(":c(((((x=[0])))))", 1);
        text(":c(((((x=[[0]])))))", -5010);
        text(":c((((((", -1008);
        text(":c(((((((", -5008);
        // beside one another they are not open in one another
        text(":c((x=0)&(x=0)&(x=0)&(x=0)&(x=0)&(x=0)&(x=0)&(x=0))", 1);
        text(":c([x]+[x]+[x]+[x]+[x]+[x]+[x]+[x]=[x]+[x])", 1);
        text(":c(x=0);c((x=0));c((((((x=0))))))", 3);
        // where the sign can't stand it is the fault 1
        text(":c(((((x=((", -1009);
        text(":c(!!!!!x!", -1009);
        text(":c(!!!!!x=(", -1010);
        text(":c(!!!!!x=0!", -1011);
        doc.says("a ! is open till its PIECE ends);");
        text(":c(!!!!!x=0&!!!!!x=0)", 1);
        text(":c(!!!!!x=0|!!!!!x=0)", 1);
        text(":c(!!!!!x=0&!!!!!!x=0)", -5017);
        text(":c(!!!!(x=0)&!!!!(x=0))", 1);
        text(":c(!!!!(x=0)&!!!!!(x=0))", -5018);
        text(":c(!x=0&[[[[[x]]]]]=0)", 1);
        text(":c(!x=0&[[[[[[x]]]]]]=0)", -5013);
        text(":c(!x=[[[[0]]]])", 1);
        text(":c(!x=[[[[[0]]]]])", -5010);
        text(":c(!!!!!x=[0])", -5010);
        text(":c(!([[[x]]]=0)&[[[[[x]]]]]=0)", 1);
        text(":c(!([[[[x]]]]=0))", -5008);
    }

    private void placesInTheWedge() {
        for (int size = 2; size <= 16; size += 2) {
            doc.says("6 a place that is not in the WEDGE,");
            int last = size - 1;
            text(size, ":s" + last + "," + last, 1);
            text(size, ":s" + size + ",0", -6002);
            text(size, ":s0," + size, -6002);
            text(size, ":r" + size + ",0-" + size + ",0", -6002);
            text(size, ":r0," + size + "-0," + size, -6002);
            text(size, ":r0,0-" + last + "," + last, 1);
            text(size, ":r0,0-" + size + "," + last, -6006);
            text(size, ":r0,0-" + last + "," + size, -6006);
            text(size, "h:s" + (size / 2 - 1) + "," + last, 1);
            text(size, "h:s" + size / 2 + ",0", -6003);
            text(size, "v:s" + last + "," + (size / 2 - 1), 1);
            text(size, "v:s0," + size / 2, -6003);
            text(size, "d:s" + last + "," + last, 1);
            text(size, "d:s" + (last - 1) + "," + last, -6003);
            text(size, "d:s0,1", -6003);
            text(size, "d:s0,0", 1);
            text(size, ":s99,0", -6002);
            text(size, ":s0,99", -6002);
        }
        text("hhhhvvvv:s0,0", 1);
        text("hhhhvvvv:s1,0", -6010);
        text("hhhhvvvv:s0,1", -6010);
        text("d:r0,0-0,1", -6007);
        text("d:r0,1-1,1", -6003);
        text("d:r1,1-2,2", 1);
        text(":s0,0;s16,0", -6007);
    }

    private void otherPlaces() {
        doc.says("or (of r) the other one less than the one, at its X's first digit ");
        text(":r5,5-5,5", 1);
        text(":r5,5-4,5", -6006);
        text(":r5,5-5,4", -6006);
        text(":r5,5-4,4", -6006);
        text(":r5,5-6,4", -6006);
        text(":r5,5-4,6", -6006);
        text(":r05,05-04,05", -6008);
        text(":r15,15-14,15", -6008);
        text(":s0,0;r5,5-4,5", -6011);
        text("hv:r1,0-0,0", -6008);
    }

    private void whenAsked() {
        doc.says("(asked when its Y's digits end, two at the latest).");
        // one digit ends by what comes behind it, whatever that is
        text(":s16,0", -6002);
        text(":s16,0;", -6002);
        text(":s16,0x", -6002);
        text(":s16,0,", -6002);
        // two digits end by themselves, ahead of a third
        text(":s16,00", -6002);
        text(":s16,000", -6002);
        text(":s0,160", -6002);
        text(":s0,150", -1006);
        text(":s0,99x", -6002);
        text(":r0,0-0,160", -6006);
        text(":r0,0-0,150", -1010);
        // a Y of one digit goes on: 1 is in the wedge, 16 is not
        text(":s0,1", 1);
        text(":s0,16", -6002);
        text(":r0,2-0,1", -6006);
        text(":r0,2-0,10", 1);
        // till then the place is not asked
        text(":s16", -1004);
        text(":s16,", -1005);
        text(":s16;", -1004);
        text(":s16,x", -1005);
        text(":s160,0", -1004);
        text(":r5,5-4", -1007);
        text(":r5,5-4,", -1008);
        text(":r5,5-4;5", -1007);
        text(":r16,0-", -6002);
        text(":r16,0+", -6002);
    }

    private void theFirst() {
        doc.says("FAULTS, the first from the left: 1 what can't stand there (the end, too;");
        text("hhhhh:s99,99;c(x=123456)", -3004);
        text(":s99,99;c(x=123456)", -6002);
        text(":c(x=123456);s99,99", -2010);
        text(":c(x=123456&!!!!!!x=0)", -2010);
        text(":c(!!!!!!x=123456)", -5008);
        text(":c(x=1);x;s99,99", -1008);
        text("xhhhhh:", -1000);
        text("hxhhhh:", -1001);
    }

    private void farPlaces() {
        doc.says("a FAULT: -1000 times its number, less its place (the one before stays);");
        String long153 = ":c(x=" + "0+".repeat(74);
        doc.due("so far", long153.length(), 153);
        text(long153 + "0&x=1)", 1);
        text(long153 + "12345)", 1);
        text(long153 + "123456)", -2158);
        text(long153 + "1+1);;", -1158);
        text(long153 + "1+1)s", -1157);
        text(long153 + "1+1+1)", 1);
        text(long153 + "1+1+1+", -1159);
        text(long153 + "1+1+1+1", -1160);
        text(long153 + "0);s99,", -1160);
        text(long153 + "0);s9,9", 2);
        text(long153 + "0);r9,9", -1160);
        text(long153 + "0&!x=1)", 1);
        text(long153 + "[[[[[[0", -5158);
        text(8, long153 + "0);s9,9", -6157);
    }
}
