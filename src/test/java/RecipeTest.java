/** Promises 3 and 4 and the language of recipes: faults and their places, and what is cut. */
public final class RecipeTest {
    private static final Checks CHECKS = new Checks();

    public static void main(String[] args) {
        foldFaults();
        snipFaults();
        placeFaults();
        conditionFaults();
        depthFaults();
        snipNumbers();
        tapeAndNumbers();
        reckoning();
        refusing();
        CHECKS.end();
    }

    private static void text(int size, String text, int want) {
        CHECKS.due("size " + size + " recipe " + text, Checks.cook(Checks.sheet(size), text), want);
    }

    private static void text(String text, int want) {
        text(16, text, want);
    }

    private static void foldFaults() {
        text(":s0,0", 1);
        text("x:s0,0", -1000);
        text("h", -1001);
        text("hv", -1002);
        text(":", -1001);
        text("h v:s0,0", -1001);
        text("H:s0,0", -1000);
        text("hhhh:s0,0", 1);
        text("hhhhh:s0,0", -3004);
        text("vvvv:s0,0", 1);
        text("vvvvv:s0,0", -3004);
        text("hhhhvvvv:s0,0", 1);
        text("hhhhvvvvd:s0,0", -3008);
        text("hhhvvvd:s1,1", 1);
        text("hd:s0,0", -3001);
        text("dh:s0,0", -3001);
        text("dv:s0,0", -3001);
        text("dd:s0,0", -3001);
        text("hvvhd:s0,0", 1);
        text(6, "hh:s0,0", -3001);
        text(6, "hvd:s2,2", 1);
        text(2, "hv:s0,0", 1);
        text(2, "d:s1,0", 1);
        text(12, "hhh:s0,0", -3002);
        text("hhhhh", -3004);
    }

    private static void snipFaults() {
        text(":;", -1001);
        text(":s0,0;", -1006);
        text(":s0,0;;", -1006);
        text(":s0,0x", -1005);
        text(":s0,0,", -1005);
        text(":t0,0", -1001);
        text(":s0,0;h0,0", -1006);
        text(":c(x=y)s0,0", -1007);
        text(":c(x=y);s0,0", 2);
        text(":s0,0:s0,0", -1005);
    }

    private static void placeFaults() {
        text(":s", -1002);
        text(":s,", -1002);
        text(":s 0,0", -1002);
        text(":s0", -1003);
        text(":s0;", -1003);
        text(":s0,", -1004);
        text(":s0,x", -1004);
        text(":s123,0", -1004);
        text(":s0,123", -1006);
        text(":s00,00", 1);
        text(":s15,15", 1);
        text(":s16,0", -6002);
        text(":s0,16", -6002);
        text(":s99,123", -6002);
        text(":s99,1", -6002);
        text(":s99,1a", -6002);
        text(":s99,a", -1005);
        text(":s99", -1004);
        text(":s999,0", -1004);
        text(":r0,0", -1005);
        text(":r0,0;", -1005);
        text(":r0,0-", -1006);
        text(":r0,0-1", -1007);
        text(":r0,0-1,1", 1);
        text(":r5,5-5,5", 1);
        text(":r5,5-4,5", -6006);
        text(":r5,5-5,4", -6006);
        text(":r5,5-4,x", -1008);
        text(":r16,0-17,0", -6002);
        text(":r16,0x", -6002);
        text(":r0,0-16,0", -6006);
        text(":r10,10-15,16", -6008);
        text(":r10,10-15,153", -1013);
        text("hv:s8,0", -6004);
        text("hv:s7,7", 1);
        text("d:s0,1", -6003);
        text("d:s1,1", 1);
        text("d:r0,0-0,1", -6007);
        text("d:r0,0-3,3", 1);
        text(4, ":s4,0", -6002);
    }

    private static void conditionFaults() {
        text(":c", -1002);
        text(":cx", -1002);
        text(":c(", -1003);
        text(":c()", -1003);
        text(":c(X=1)", -1003);
        text(":c(a=1)", -1003);
        text(":c(x)", -1004);
        text(":c(x", -1004);
        text(":c(x=)", -1005);
        text(":c(x==1)", -1005);
        text(":c(x=-1)", -1005);
        text(":c(x=y", -1006);
        text(":c(x=y))", -1007);
        text(":c(x=y&)", -1007);
        text(":c(x=y|)", -1007);
        text(":c(x=y&&x=y)", -1007);
        text(":c(x<y<z)", -1006);
        text(":c((x)=1)", -1005);
        text(":c((x=1)=1)", -1008);
        text(":c((x=1)+1)", -1008);
        text(":c([x=1])", -1005);
        text(":c([x)=1)", -1005);
        text(":c([x]=1)", 1);
        text(":c([]=1)", -1004);
        text(":c(!x)", -1005);
        text(":c(x!=1)", -1004);
        text(":c(x+=1)", -1005);
        text(":c(x=1!)", -1006);
        text(":c(xy=1)", -1004);
        text(":c(1x=1)", -1004);
        text(":c(x=[!x])", -1006);
        text(":c(x=(1))", -1005);
        text(":c(x=12345)", 1);
        text(":c(x=123456)", -2010);
        text(":c(000000=x)", -2008);
        text(":c(00000=x)", 1);
        text(":c(x=1);", -1008);
        text(":c(x=y&!x=3|(l>z))", 1);
    }

    private static void depthFaults() {
        text(":c((((((x=0))))))", 1);
        text(":c(((((((x=0)))))))", -5008);
        text(":c(!!!!!x=0)", 1);
        text(":c(!!!!!!x=0)", -5008);
        text(":c([[[[[x]]]]]=0)", 1);
        text(":c([[[[[[x]]]]]]=0)", -5008);
        text(":c(x=[[[[[x]]]]])", 1);
        text(":c(x=[[[[[[x]]]]]])", -5010);
        text(":c(!!!!!x=0&!!!!!x=1)", 1);
        text(":c(!!!!!x=0|!!!!!!x=1)", -5017);
        text(":c(!!!!!x=[0])", -5010);
        text(":c(!!!!(x=[0]))", -5010);
        text(":c(!!!!(x=0)&x=[[[[[0]]]]])", 1);
        text(":c(!!!!(x=0)&x=[[[[[[0]]]]]])", -5020);
        text(":c(!!!!!x(", -1009);
        text(":c(!!!!!x=!", -1010);
        text(":c((!(!(x=1))))", 1);
        text(":c((!(!([x]=1))))", -5008);
        text(":c((!(!(!x=1))))", -5008);
    }

    private static void snipNumbers() {
        String twelve = ":s0,0" + ";s0,0".repeat(11);
        text(twelve, 12);
        text(twelve + ";", -1061);
        text(twelve + ";x", -1061);
        text(twelve + ";s", -4061);
        text(twelve + ";r0,0-1,1", -4061);
        text(twelve + ";c(x=y)", -4061);
        text(twelve + "x", -1060);
    }

    private static void tapeAndNumbers() {
        PaperStars stars = new PaperStars();
        for (int i = 1; i <= 10; i++) {
            CHECKS.due("feed", stars.feed(980627500, 811688289, -1, 0, 255), 20 * i);
        }
        CHECKS.due("feed 11", stars.feed(0, 0, 0, 0, 0), -1);
        CHECKS.due("bytes", stars.count(3), 200);
        CHECKS.due("recipe 0", stars.recipe(0), -1);
        CHECKS.due("recipe -1", stars.recipe(-1), -1);
        CHECKS.due("recipe 161", stars.recipe(161), -1);
        CHECKS.due("recipe least", stars.recipe(Integer.MIN_VALUE), -1);
        CHECKS.due("recipe most", stars.recipe(Integer.MAX_VALUE), -1);
        CHECKS.due("tape stays", stars.count(3), 200);
        CHECKS.due("recipe 6", stars.recipe(6), -1005);
        CHECKS.due("tape empty", stars.count(3), 0);
        CHECKS.due("recipe of none", stars.recipe(1), -1);
        CHECKS.due("feed", stars.feed(980627500, 805306368 + 0x3b7373, 0, 0, 0), 20);
        CHECKS.due("recipe 21", stars.recipe(21), -1);
        CHECKS.due("tape stays", stars.count(3), 20);
        CHECKS.due("recipe 5", stars.recipe(5), 1);
        CHECKS.due("tape empty", stars.count(3), 0);

        CHECKS.due("cook", Checks.cook(stars, "hv:s0,0;s1,1"), 2);
        CHECKS.due("fault", Checks.cook(stars, "v:c(1=1);x"), -1009);
        CHECKS.due("the one before stays", stars.count(1), 2);
        CHECKS.due("its folds stay", stars.count(2), 2);
        CHECKS.due("its wedge stays", stars.wedge(0), 8);
        CHECKS.due("its cuts stay", stars.wedge(3), 2);
        CHECKS.due("cook", Checks.cook(stars, "v:s3,3"), 1);
        CHECKS.due("in its place", stars.count(2), 1);
        CHECKS.due("in its place", stars.wedge(3), 1);

        String longest = ":c(x=" + "0+".repeat(77) + ")";
        CHECKS.due("160 long", longest.length(), 160);
        CHECKS.due("160, a fault at the end", Checks.cook(stars, longest), -1159);
        CHECKS.due("160", Checks.cook(stars, longest.replace("+)", ")") + ";"), -1160);
        CHECKS.due("160", Checks.cook(stars, longest.replace("0+)", "10)") + ""), 1);
        CHECKS.due("column 10", stars.snipped(10, 3), 1);
        CHECKS.due("column 10", stars.wedge(3), 16);
    }

    /** A condition of x on a sheet of 8, and for which x it holds. */
    private static void columns(String condition, String want) {
        PaperStars stars = Checks.cooked(8, ":c(" + condition + ")");
        StringBuilder got = new StringBuilder();
        for (int x = 0; x < 8; x++) {
            if (stars.snipped(x, 3) == 1) {
                got.append(x);
            }
        }
        CHECKS.due(condition + " holds for " + got + ", not " + want, got.toString().equals(want),
                true);
    }

    private static void reckoning() {
        columns("x=3", "3");
        columns("x<3", "012");
        columns("x>3", "4567");
        columns("!x>3", "0123");
        columns("!!x>3", "4567");
        columns("7-2-1=x", "4");
        columns("8/2/2=x", "2");
        columns("7%4*2=x", "6");
        columns("1+2*3=x", "7");
        columns("[1+2]*2=x", "6");
        columns("7-[2-1]=x", "6");
        columns("2*x+1=7", "3");
        columns("x%3=1", "147");
        columns("x/2=1", "23");
        columns("[0-7]/2+5=x", "2");
        columns("[0-7]%4+5=x", "2");
        columns("99999*99999/99999=14098&x=1", "1");
        columns("50000*50000<0&x=1", "1");
        columns("x=1|x=3&y=9|x=5", "15");
        columns("(x=1|x=3)&y=3", "13");
        columns("x=1|x=3&y=3", "13");
        columns("!x=1&x<4", "023");
        columns("!(x=1|x=2)", "034567");
        columns("x<4&!(x=1&y=3)", "023");
        columns("x=w-1", "7");
        columns("x=z-2", "6");
        columns("x=h-3", "5");
        columns("x=l", "1");
        columns("x=n", "0");
        columns("x=y", "3");
        columns("65536*65536=x", "0");
        // the least number: it stays itself when it is divided by -1
        columns("32768*32768*2/[0-1]<0&x=1", "1");
        columns("32768*32768*2%[0-1]=x", "0");

        PaperStars folded = Checks.cooked(8, "hv:s0,0;c(w=4&h=4&z=8&l=4&x=n&y=n)");
        CHECKS.due("letters", folded.snipped(1, 1), 1);
        CHECKS.due("letters", folded.wedge(3), 2);
        PaperStars narrow = Checks.cooked(8, "hh:c(w=2&h=8&l=4)");
        CHECKS.due("w and h", narrow.wedge(3), 16);
        PaperStars corner = Checks.cooked(8, "d:c(l=1)");
        CHECKS.due("layers on the diagonal", corner.wedge(3), 8);
        CHECKS.due("layers on the diagonal", corner.snipped(5, 5), 1);
        CHECKS.due("layers beside it", corner.snipped(5, 4), 0);
        CHECKS.due("beside the wedge", corner.snipped(4, 5), -1);

        PaperStars box = Checks.cooked(8, ":r1,2-3,3;s7,7");
        CHECKS.due("box", box.wedge(3), 7);
        CHECKS.due("box", box.snipped(1, 2), 1);
        CHECKS.due("box", box.snipped(3, 3), 1);
        CHECKS.due("box", box.snipped(4, 3), 0);
        CHECKS.due("box", box.snipped(1, 1), 0);
        CHECKS.due("box", box.snipped(7, 7), 1);
        PaperStars halfBox = Checks.cooked(8, "d:r1,0-3,3");
        CHECKS.due("box in a corner", halfBox.wedge(3), 2 + 3 + 4);
    }

    private static void refusing() {
        columns("1/x=1|x=0", "1");
        columns("x=0|1/x=1", "01");
        columns("x>0&4/x=2", "2");
        columns("4/x=2&x>0", "2");
        columns("x=0&1/x=1|x=2", "2");
        columns("x>0&1/x=9|x=0", "0");
        columns("!(1/x=0)", "1");
        columns("!1/x=0", "1");
        columns("(1/x=9)|1=1", "1234567");
        columns("1%x=1", "234567");
        columns("0*[1/[x-2]]=0", "0134567");
        columns("1=1|1/0=1", "01234567");
        columns("1/0=1|1=1", "");
        columns("1=2&1/0=1|x=4", "4");
    }
}
