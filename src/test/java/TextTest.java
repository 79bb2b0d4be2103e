/** Promises 1 to 4: a new object, feed, upland, fault; the TEXT, its FAULTS and the rule's language. */
public final class TextTest {
    private static final String NINE = "farm 1 0 0 1;farm 2 0 0 1;farm 3 0 0 1;farm 4 0 0 1;farm 5 0 0 1;"
        + "farm 6 0 0 1;farm 7 0 0 1;shepherd 8 0 0 1;farm 9 0 0 1;";

    private TextTest() {
    }

    public static void main(String[] args) {
        newObject();
        feeds();
        uplandsOfTheTape();
        faultsOfLines();
        faultsOfExpressions();
        faultsOfFullTapes();
        whatStaysAndGoes();
        textsOneByOne();
        told();
        values();
        operators();
        deepest();
        Check.end("TextTest");
    }

    private static void newObject() {
        NodPost post = new NodPost();
        Check.is("NONE", NodPost.NONE, -1);
        int[] due = {0, 0, 0, 60, 3, 0, 0, 0, 0, -1, 0, 0, 0, 0, 0, 0};
        for (int what = 0; what < due.length; what++) {
            Check.is("new count " + what, post.count(what), due[what]);
        }
        Check.is("new fault", post.fault(), -1);
        Check.noSuch("new begin(0)", () -> post.begin(0));
        Check.is("new restore", post.restore(), false);
    }

    private static void feeds() {
        NodPost post = new NodPost();
        for (int row = 1; row <= 35; row++) {
            Check.is("feed " + row, post.feed(row, -row, 0, 1 << 31, -1), 20 * row);
        }
        Check.is("feed of the 701st byte", post.feed(0, 0, 0, 0, 0), -1);
        Check.is("tape", post.count(12), 700);
        Check.is("no text", post.upland(700), 1);
        Check.is("tape behind a fault", post.count(12), 0);
        // "res" "t 5;" and what lies behind n isn't read.
        post.feed('r', 'e' << 24 | 's' << 16 | 't' << 8 | ' ', '5' << 24 | ';' << 16 | '?' << 8, -1, -1);
        Check.is("a byte 0 is no blank", post.upland(10), 1);
        Check.is("place of the byte 0", post.fault(), 0);
        post.feed(' ' << 24 | '\n' << 16 | ' ' << 8 | 'r', 'e' << 24 | 's' << 16 | 't' << 8 | ' ',
            '5' << 24 | ';' << 16 | '?' << 8, -1, -1);
        Check.is("highest byte first", post.upland(10), 0);
        Check.is("rest", post.count(4), 5);
        Check.is("no fault any more", post.fault(), -1);
        Check.is("tape is empty", post.count(12), 0);
    }

    private static void uplandsOfTheTape() {
        NodPost post = new NodPost();
        post.feed(0x20202020, 0x20202020, 0x20202020, 0x20202020, 0x20202020);
        Check.illegal("upland(-1)", () -> post.upland(-1));
        Check.illegal("upland(21)", () -> post.upland(21));
        Check.illegal("upland(MIN)", () -> post.upland(Integer.MIN_VALUE));
        Check.is("nothing changes", post.count(12), 20);
        Check.is("no refusal", post.count(13), 0);
        Check.is("blanks are an upland", post.upland(20), 0);
        Check.is("nothing is one", post.upland(0), 0);
        Check.illegal("upland(1) of nothing", () -> post.upland(1));
    }

    private static void fault(String text, int fault, int place) {
        NodPost post = new NodPost();
        Check.feed(post, text);
        Check.is("upland of '" + text + "'", post.upland(text.length()), fault);
        Check.is("fault of '" + text + "'", post.fault(), place);
        Check.is("refused '" + text + "'", post.count(13), fault == 0 ? 0 : 1);
    }

    private static void faultsOfLines() {
        fault("", 0, -1);
        fault("farm 0 0 0 1;shepherd 99 99 20 5;", 0, -1);
        fault("farm0 0 0 1;", 0, -1);
        fault("farm 0000 0007 0 1;", 0, -1);
        fault("farms 0 0 0 1;", 1, 0);
        fault("Farm 0 0 0 1;", 1, 0);
        fault("farm 0 0 0 1;x", 1, 13);
        fault("farm 0 0 0 1;12345", 1, 13);
        fault("farm 0 0 0 1", 1, 12);
        fault("farm 0 0 0 1  ", 1, 14);
        fault("farm 0 0 0;", 1, 10);
        fault("farm 0 0 0 1 1;", 1, 13);
        fault("farm\t0 0 0 1;", 1, 4);
        fault("farm -1 0 0 1;", 1, 5);
        fault(";", 1, 0);
        fault("farm 100 0 0 1;", 2, 5);
        fault("farm 0 100 0 1;", 2, 7);
        fault("farm 0 0 21 1;", 2, 9);
        fault("farm 0 0 0 0;", 2, 11);
        fault("farm 0 0 0 6;", 2, 11);
        fault("farm 00000 0 0 1;", 2, 5);
        fault(NINE, 0, -1);
        fault(NINE + "farm", 2, NINE.length());
        fault(NINE + " shepherd 1 0 0 1;", 2, NINE.length() + 1);
        fault("farm 5 0 0 1;farm 5 x", 4, 18);
        fault("farm 5 0 0 1;shepherd 05 0 0 1;", 4, 22);
        fault("mist 0 1 2 3 4 5 6 9;", 0, -1);
        fault("mist 0 1 2 3 4 5 6 7 8;", 2, 21);
        fault("mist;", 1, 4);
        fault("mist 10;", 2, 5);
        fault("mist 1 10;", 2, 7);
        fault("mist 1 x", 1, 7);
        fault("mist 1;mist 2;", 5, 7);
        fault("sight 1;", 0, -1);
        fault("sight 99;", 0, -1);
        fault("sight 0;", 2, 6);
        fault("sight 100;", 2, 6);
        fault("sight 5 5;", 1, 8);
        fault("sight 5;sight", 5, 8);
        fault("rest 0;", 0, -1);
        fault("rest 9;", 0, -1);
        fault("rest 10;", 2, 5);
        fault("rest 3;sight 60;rest 3;", 5, 16);
        fault("minds 1;minds", 5, 8);
        fault("mist x;mist 1;", 1, 5);
    }

    private static void faultsOfExpressions() {
        fault("minds 9999;", 0, -1);
        fault("minds 10000;", 2, 6);
        fault("minds 1+12345;", 2, 8);
        fault("minds;", 1, 5);
        fault("minds", 1, 5);
        fault("minds 1", 1, 7);
        fault("minds 1 2;", 1, 8);
        fault("minds 1 12345;", 1, 8);
        fault("minds 1 farm", 1, 8);
        fault("minds farm;", 3, 6);
        fault("minds hill;", 3, 6);
        fault("minds az;", 3, 6);
        fault("minds zz;", 3, 6);
        fault("minds or 1;", 3, 6);
        fault("minds 1+and 1;", 3, 8);
        fault("minds 1+not 1;", 3, 8);
        fault("minds 1=not 1;", 3, 8);
        fault("minds 1 and not 1 or not not seen;", 0, -1);
        fault("minds not;", 1, 9);
        fault("minds not farm;", 3, 10);
        fault("minds 1<2<3;", 1, 9);
        fault("minds 1<2=3;", 1, 9);
        fault("minds 1<2 and 2<3;", 0, -1);
        fault("minds -1;", 1, 6);
        fault("minds 1+;", 1, 8);
        fault("minds (1;", 1, 8);
        fault("minds 1);", 1, 7);
        fault("minds ();", 1, 7);
        fault("minds (1)(1);", 1, 9);
        fault("minds 1>2;", 1, 7);
        fault("minds not not not not not not 1;", 0, -1);
        fault("minds not not not not not not not 1;", 2, 30);
        fault("minds not not not not not not(not not not not not not 1);", 0, -1);
        fault("minds not not not 1 and not not not not 1;", 0, -1);
        fault("minds (((((1)))));", 0, -1);
        fault("minds ((((((1))))));", 2, 12);
        fault("minds (((((((1)))))));", 2, 12);
        fault("minds ((((((farm", 2, 12);
        fault("minds ((((((not 1", 2, 12);
        fault("minds ((((((12345", 2, 12);
        fault("minds ((((((+", 1, 12);
        fault("minds (((((()", 1, 12);
        fault("minds ((((((", 1, 12);
        fault("minds ((((((?", 1, 12);
        fault("minds (((((1)))))+(((((1)))));", 0, -1);
        fault("minds seen+far+up+nods+mist+tick;", 0, -1);
    }

    /** Texts that fill the tape: what is read must not go beyond it. */
    private static void faultsOfFullTapes() {
        fault(" ".repeat(700), 0, -1);
        fault("z".repeat(700), 1, 0);
        fault("9".repeat(700), 1, 0);
        fault("minds " + "9".repeat(694), 2, 6);
        fault("minds " + "z".repeat(694), 3, 6);
        fault("minds " + "1+".repeat(346) + "1;", 0, -1);
        fault("minds " + "1+".repeat(347), 1, 700);
        fault("minds " + "1+".repeat(346) + "1 ", 1, 700);
        fault("mist 1;" + " ".repeat(689) + "mist", 5, 696);
    }

    private static void whatStaysAndGoes() {
        NodPost post = Check.post("farm 10 20 3 2;farm 30 5 0 1;mist 1 2;sight 44;rest 7;");
        post.begin(0);
        post.ticks(2);
        post.see(1, 3, true);
        post.see(1, 0, true);
        post.ticks(0);
        post.image();
        Check.feed(post, "farm 1 1 1 1");
        Check.is("fault", post.upland(12), 1);
        int[] due = {2, 2, 1, 44, 7};
        for (int what = 0; what < due.length; what++) {
            Check.is("stays, count " + what, post.count(what), due[what]);
        }
        Check.is("acts stay", post.count(10), 2);
        Check.is("seen stays", post.count(11), 1);
        Check.is("x stays", post.farm(0, 0), 10);
        Check.is("nods stay", post.farm(0, 6), 1);
        Check.is("the image stays", post.restore(), true);
        Check.is("the image has no fault of a text", post.count(13), 0);
        Check.is("the place stays", post.fault(), 12);
        Check.feed(post, "farm 1 2 3 4;");
        Check.is("upland", post.upland(13), 0);
        int[] anew = {1, 0, 0, 60, 3, 0, 0, 1, 1, -1, 0, 0, 0, 0, 1, 1};
        for (int what = 0; what < anew.length; what++) {
            Check.is("anew, count " + what, post.count(what), anew[what]);
        }
        Check.is("the image is gone", post.restore(), false);
        Check.is("no act is left", post.undo(), -1);
        int[] farm = {1, 2, 3, 4, 0, 0, 0, 0, 0, 0};
        for (int what = 0; what < farm.length; what++) {
            Check.is("anew, farm " + what, post.farm(0, what), farm[what]);
        }
        Check.feed(post, "mist 4 5 6;");
        Check.is("upland without farms", post.upland(11), 0);
        Check.noSuch("no farm any more", () -> post.farm(0, 0));
        Check.is("mist", post.count(2), 4);
    }

    private static void textsOneByOne() {
        NodPost post = new NodPost();
        String whole = "shepherd 0 0 0 1;farm 9 0 0 1;mist 1 2 3 4 5 6 7 8;sight 70;rest 0;minds 0;";
        for (int time = 0; time < 2; time++) {
            Check.feed(post, whole);
            Check.is("the same text again", post.upland(whole.length()), 0);
            Check.is("mist of 8", post.count(2), 1);
            Check.is("a shepherd minds", post.reaches(1, 0), 2);
            post.sleep(0, true);
            post.begin(1);
        }
        String less = "farm 0 0 0 1;farm 9 0 0 1;";
        Check.feed(post, less);
        Check.is("a text with less", post.upland(less.length()), 0);
        Check.is("nobody is ASLEEP", post.count(5), 0);
        Check.is("nobody is WAITING", post.count(6), 0);
        Check.is("no mist", post.count(2), 0);
        Check.is("no shepherd", post.farm(0, 8), 0);
        Check.is("no rule", post.reaches(0, 1), 2);
        Check.is("SIGHT and REST without", post.count(3) * 10 + post.count(4), 603);
    }

    private static void told() {
        NodPost post = Check.post("mist 9 0 4;\nshepherd 7 8 9 5; farm 6 5 4 3;\n rest 0;sight 99;");
        Check.is("farms", post.count(0), 2);
        Check.is("shepherd", post.farm(0, 8), 1);
        Check.is("farm", post.farm(1, 8), 0);
        int[] due = {6, 5, 4, 3};
        for (int what = 0; what < due.length; what++) {
            Check.is("farm 1, " + what, post.farm(1, what), due[what]);
        }
        int[] mist = {9, 0, 4, 9, 0};
        for (int tick = 0; tick < mist.length; tick++) {
            Check.is("mist of " + tick, post.count(2), mist[tick]);
            post.ticks(1);
        }
    }

    /** Farm 1 sees farm 0 nod in the first tick: whether it minds. */
    private static void minded(String rule, boolean due) {
        NodPost post = Check.post("farm 10 20 9 1;farm 25 50 4 1;mist 2;rest 5;minds " + rule + ";");
        Check.is("minds " + rule, post.reaches(0, 1), due ? 2 : -1);
    }

    private static void values() {
        minded("seen = 1", true);
        minded("far = 15", true);
        minded("up + 30 = 0", true);
        minded("up = 0 - 30", true);
        minded("nods = 0 and mist = 2 and tick = 0", true);
        // Both 1 and 2 are 10 away from 0, which they see nod: the least of these counts; 3 is nearer, but doesn't nod.
        String three = "farm 50 10 0 1;farm 40 30 0 1;farm 60 20 0 1;farm 55 0 0 5;sight 10;rest 9;";
        NodPost near = Check.post(three + "minds seen = 2 and far = 10 and up = 20;");
        near.begin(1);
        near.begin(2);
        near.ticks(1);
        Check.is("like ones: the least", near.farm(0, 4), 1);
        NodPost late = Check.post("farm 0 0 0 1;farm 9 0 0 1;rest 0;minds nods < 2 and tick < 9;");
        late.begin(0);
        Check.is("0 minds it once more, 1 twice", late.then(0, 20, 1) * 10 + late.then(1, 20, 1), 22);
        late.ticks(8);
        Check.is("nods 2 are too many", late.reaches(0, 1), -1);
        NodPost nights = Check.post("farm 0 0 0 1;farm 9 0 0 1;mist 0 3;minds mist;");
        Check.is("mist 0", nights.reaches(0, 1), -1);
        nights.ticks(1);
        Check.is("mist 3", nights.reaches(0, 1), 2);
        NodPost noon = Check.post("farm 0 0 0 1;farm 9 0 0 1;minds tick = 3;");
        int[] due = {-1, -1, -1, 2, -1};
        for (int tick = 0; tick < due.length; tick++) {
            Check.is("tick " + tick, noon.reaches(1, 0), due[tick]);
            noon.ticks(1);
        }
        NodPost deaf = Check.post("farm 0 0 0 1;shepherd 9 0 0 1;minds 0;");
        Check.is("a shepherd always", deaf.reaches(0, 1), 2);
        Check.is("a farm by the rule", deaf.reaches(1, 0), -1);
    }

    private static void operators() {
        minded("1", true);
        minded("0", false);
        minded("7", true);
        minded("0 - 1", false);
        minded("1 + 2 * 3 = 7", true);
        minded("(1 + 2) * 3 = 9", true);
        minded("10 - 3 - 2 = 5", true);
        minded("100 / 10 / 5 = 2", true);
        minded("7 / 2 * 2 = 6", true);
        minded("(0 - 7) / 2 = 0 - 3", true);
        minded("5 / 0 = 0", true);
        minded("5 / (1 - 1) + 1", true);
        minded("1 < 1", false);
        minded("1 < 2", true);
        minded("(1 < 2) + (2 = 2) + (not 0) = 3", true);
        minded("(5 and 7) = 1", true);
        minded("(5 or 0) = 1", true);
        minded("(0 or 0) = 0", true);
        minded("(0 - 1) and 1", true);
        minded("not (0 - 1)", false);
        minded("not not 5 = 1", false);
        minded("(not not 5) = 1", true);
        minded("not 1 = 2", true);
        minded("1 or 1 and 0", true);
        minded("(1 or 1) and 0", false);
        minded("not 0 and 0", false);
        minded("not (0 and 0)", true);
        // 9999 * 9999 * 9999 wraps to -1027349969.
        minded("9999 * 9999 * 9999", false);
        minded("9999 * 9999 * 9999 < 0", true);
        minded("9999*9999*9999/1000 = 0 - 9999*102 - 7451", true);
        // The least int, over -1, stays so.
        minded("(0-4096*4096*128) < 0", true);
        minded("(0-4096*4096*128) / (0-1) < 0", true);
        minded("4096*4096*128 = 0-4096*4096*128", true);
        minded("4096*4096*256", false);
    }

    private static void deepest() {
        String inner = "0 or 1 and 0 < 0 + 1 * ";
        String rule = inner + "(" + inner + "(" + inner + "(" + inner + "(" + inner + "(" + inner;
        minded(rule + "0)))))", false);
        minded(rule + "3)))))", true);
        minded(rule + "0 - 3)))))", false);
        minded("1 and 1 and 0 < 0 + 1 * (1 and 1 and 0 < 0 + 1 * (1 and 1 and 0 < 0 + 1 * (0 or 1 and 0 < 0 + 1 * ("
            + "0 or 1 and 0 < 0 + 1 * (0 or 1 and 0 < 0 + 1 * 3)))))", true);
    }
}
