/** Terms, part 4, and promises 30 to 36: on both sides of each boundary of what is SEEN, mist, the game, years. */
public final class GuessEdgesTest {
    /** 0 and 1, 1 and 2 are in sight of each other; 1 is slow. */
    private static final String CHAIN = "farm 0 0 0 1;farm 10 0 0 2;farm 20 0 0 1;sight 10;";
    /** 0 and 1 nod in turn, for ever; 1 alone is in sight of 2, which is told behind it. */
    private static final String IN_TURN = "shepherd 0 0 0 1;shepherd 5 0 0 1;sight 5;rest 0;";

    private GuessEdgesTest() {
    }

    public static void main(String[] args) {
        howMuchIsSeen();
        whichTicksAreSeen();
        theTwentiethTick();
        allThatIsSeen();
        whoMayHaveBegun();
        whereToLook();
        mistOfOneToFiveTicks();
        tenthsOfMist();
        asFarAsMistOfNine();
        moreOftenThanNow();
        whichCouplesRest();
        whatIsGained();
        nineTicksOfAGame();
        yearsOfOneFarm();
        yearsAtBothEnds();
        seedsThatWrap();
        Check.end("GuessEdgesTest");
    }

    // ---- What is SEEN

    private static void howMuchIsSeen() {
        NodPost post = Check.post(CHAIN);
        for (int many = 1; many <= 8; many++) {
            Check.is("SEEN", post.see(many % 3, many, many % 2 == 0), many);
            Check.is("SEEN", post.count(11), many);
        }
        for (int refused = 1; refused <= 3; refused++) {
            Check.is("there are 8", post.see(0, 1, true), -1);
            Check.is("STATUS 2", post.count(15), refused);
            Check.is("SEEN", post.count(11), 8);
        }
        Check.noSuch("no such FARM, though there are 8", () -> post.see(3, 1, true));
        Check.is("not in STATUS", post.count(15), 3);
        post.forget();
        Check.is("forgotten", post.count(11), 0);
        Check.is("anew", post.see(0, 1, true), 1);
        post.forget();
        post.forget();
        Check.is("nothing to forget", post.count(11), 0);
        Check.is("other STATUS", post.count(13) + post.count(14), 0);
        Check.is("no ACTS", post.count(10), 0);
    }

    private static void whichTicksAreSeen() {
        NodPost post = Check.post(CHAIN);
        int refused = 0;
        for (int k : new int[] {Integer.MIN_VALUE, -1, 0, 21, 22, 60, Integer.MAX_VALUE}) {
            Check.is("k " + k, post.see(0, k, false), -1);
            refused++;
            Check.is("STATUS 2", post.count(15), refused);
        }
        Check.is("none is SEEN", post.count(11), 0);
        for (int k = 1; k <= 20; k++) {
            post.forget();
            Check.is("k " + k, post.see(2, k, false), 1);
        }
        for (int farm : new int[] {-1, 3, 9, Integer.MIN_VALUE, Integer.MAX_VALUE}) {
            Check.noSuch("farm", () -> post.see(farm, 1, true));
            Check.noSuch("farm, ahead of k", () -> post.see(farm, 0, true));
        }
        Check.is("STATUS 2", post.count(15), refused);
    }

    private static void begun(String when, NodPost post, int many, int first, int without) {
        Check.is(when + ": begun(0)", post.begun(0), many);
        Check.is(when + ": begun(1)", post.begun(1), first);
        Check.is(when + ": begun(2)", post.begun(2), without);
    }

    /** By 0, and by 2 itself, 1 nods in the 18th TICK, the only one that 2 minds; 2 nods in the 20th, or later. */
    private static void theTwentiethTick() {
        NodPost post = Check.post(IN_TURN + "farm 10 0 0 2;minds tick = 17;");
        post.see(2, 20, true);
        begun("the 20th", post, 2, 0, 0);
        post.forget();
        post.see(2, 19, true);
        begun("not the 19th", post, 0, -1, 0);
        post.forget();
        post.see(2, 20, false);
        begun("not the 20th", post, 1, 1, 1);
        NodPost later = Check.post(IN_TURN + "farm 10 0 0 3;minds tick = 17;");
        later.see(2, 20, true);
        begun("the 21st", later, 0, -1, 0);
        later.ticks(1);
        begun("one TICK later 1 nods in the 17th, by 1 itself", later, 1, 1, 0);
        NodPost first = Check.post(IN_TURN + "farm 10 0 0 2;");
        first.see(1, 1, true);
        begun("the 1st", first, 1, 1, 0);
    }

    /** All eight must be so, the first and the last one too. */
    private static void allThatIsSeen() {
        for (int wrong = -1; wrong < 8; wrong++) {
            NodPost post = Check.post(CHAIN);
            int[] nodding = {1, 0, 2, 4, 0, 0, 0, 0};
            for (int i = 0; i < 8; i++) {
                int farm = i < 4 ? new int[] {0, 1, 1, 2}[i] : 0;
                boolean nods = (nodding[i] >> farm & 1) == 1;
                post.see(farm, i + 1, i == wrong ? !nods : nods);
            }
            begun("wrong is " + wrong, post, wrong == -1 ? 1 : 0, wrong == -1 ? 0 : -1, 0);
        }
        NodPost twice = Check.post(CHAIN);
        twice.see(0, 1, true);
        twice.see(0, 1, true);
        begun("the same twice", twice, 1, 0, 0);
        twice.see(0, 1, false);
        begun("and its contrary", twice, 0, -1, 0);
    }

    private static void whoMayHaveBegun() {
        NodPost none = new NodPost();
        begun("without FARMS", none, 0, -1, 1);
        NodPost post = Check.post(CHAIN);
        begun("nothing SEEN", post, 3, 0, 1);
        post.sleep(0, true);
        begun("0 is ASLEEP", post, 2, 1, 1);
        post.sleep(1, true);
        post.sleep(2, true);
        begun("all are ASLEEP", post, 0, -1, 1);
        post.see(0, 1, true);
        begun("who is ASLEEP can't have nodded", post, 0, -1, 0);
        // Who is WAITING nods later, unless it begins now.
        NodPost waits = Check.post(CHAIN + "rest 9;");
        waits.begin(0);
        waits.ticks(1);
        waits.see(1, 2, true);
        begun("by 0 or 2, or without", waits, 2, 0, 1);
        waits.forget();
        waits.see(1, 1, true);
        begun("by 1", waits, 1, 1, 0);
        waits.forget();
        waits.see(0, 1, true);
        begun("0 RESTS, yet may have", waits, 1, 0, 0);
        Check.is("nothing has begun", waits.count(6), 2);
        for (int what : new int[] {-1, 3, Integer.MIN_VALUE, Integer.MAX_VALUE}) {
            Check.noSuch("what", () -> waits.begun(what));
            Check.noSuch("what, without FARMS", () -> none.begun(what));
        }
    }

    private static void look(String when, NodPost post, int tick, int many) {
        Check.is(when + ": look(0)", post.look(0), tick);
        Check.is(when + ": look(1)", post.look(1), many);
    }

    private static void whereToLook() {
        look("without FARMS", new NodPost(), -1, 0);
        NodPost post = Check.post(CHAIN);
        look("three", post, 1, 3);
        post.sleep(2, true);
        look("two", post, 1, 2);
        post.sleep(1, true);
        look("one", post, 1, 1);
        post.sleep(0, true);
        look("none", post, -1, 0);
        NodPost nine = Check.post("farm 0 0 0 1;farm 1 0 0 1;farm 2 0 0 1;farm 3 0 0 1;farm 4 0 0 1;farm 5 0 0 1;"
            + "farm 6 0 0 1;farm 7 0 0 1;farm 8 0 0 1;");
        look("nine", nine, 1, 9);
        nine.begin(3);
        nine.begin(8);
        look("3 and 8 nod anyway", nine, 1, 8);
        for (int farm = 0; farm < 9; farm++) {
            nine.begin(farm);
        }
        look("all nod anyway", nine, 1, 1);
        nine.see(4, 1, false);
        look("that can't be", nine, -1, 0);
        for (int what : new int[] {-1, 2, Integer.MIN_VALUE, Integer.MAX_VALUE}) {
            Check.noSuch("what", () -> nine.look(what));
        }
    }

    // ---- BY MIST

    /** 1 nods in the TICK behind as many as it is slow. */
    private static void mistOfOneToFiveTicks() {
        int[] of = {1, 10, 100, 1000, 10000, 100000};
        for (int slow = 1; slow <= 5; slow++) {
            NodPost post = Check.post("farm 0 0 0 1;farm 10 0 0 " + slow + ";rest 9;");
            Check.is("nobody begins", post.byMist(0, 5, 0), 0);
            post.begin(0);
            for (int ticks = 1; ticks <= 5; ticks++) {
                Check.is("who begins, in " + ticks, post.byMist(0, ticks, 4), of[ticks]);
                Check.is("slow " + slow + ", in " + ticks, post.byMist(1, ticks, 0), ticks > slow ? of[ticks] : 0);
            }
            for (int ticks : new int[] {0, 6, -1, 60, Integer.MIN_VALUE, Integer.MAX_VALUE}) {
                Check.illegal("ticks " + ticks, () -> post.byMist(0, ticks, 5));
                Check.noSuch("farm, ahead of ticks", () -> post.byMist(2, ticks, 5));
                Check.noSuch("farm, ahead of ticks", () -> post.byMist(-1, ticks, 5));
            }
        }
    }

    private static void tenthsOfMist() {
        NodPost post = Check.post("farm 0 0 0 1;farm 19 0 0 1;farm 38 0 0 1;rest 9;");
        post.begin(0);
        for (int tenths = 0; tenths <= 10; tenths++) {
            int clear = 10 - tenths;
            Check.is("1 sees the first nod", post.byMist(1, 2, tenths), clear * 10);
            Check.is("2 sees the second one", post.byMist(2, 5, tenths), clear * clear * 1000);
            Check.is("2 is too late", post.byMist(2, 2, tenths), 0);
        }
        for (int tenths : new int[] {-1, 11, Integer.MIN_VALUE, Integer.MAX_VALUE}) {
            Check.illegal("tenths " + tenths, () -> post.byMist(0, 1, tenths));
            Check.noSuch("farm, ahead of tenths", () -> post.byMist(3, 1, tenths));
        }
        // It is MIST that is drawn, whatever the text tells: the rule has it, and 0 else.
        NodPost rule = Check.post("farm 0 0 0 1;farm 10 0 0 1;mist 5;minds mist = 5;");
        rule.begin(0);
        Check.is("neither 9 nor 0", rule.byMist(1, 3, 5), 0);
        NodPost nine = Check.post("farm 0 0 0 1;farm 10 0 0 1;sight 99;mist 5;minds mist = 9;");
        nine.begin(0);
        Check.is("9", nine.byMist(1, 3, 3), 300);
        NodPost zero = Check.post("farm 0 0 0 1;farm 10 0 0 1;mist 5;minds mist = 0;");
        zero.begin(0);
        Check.is("0", zero.byMist(1, 3, 3), 700);
    }

    private static void asFarAsMistOfNine() {
        for (int x = 17; x <= 20; x++) {
            NodPost post = Check.post("farm 0 0 0 1;farm " + x + " 0 0 1;sight 99;");
            post.begin(0);
            Check.is(x + " away", post.byMist(1, 2, 10), x <= 18 ? 100 : 0);
        }
        for (int sight = 81; sight <= 82; sight++) {
            NodPost post = Check.post("farm 0 0 0 1;farm 1 0 0 1;sight " + sight + ";");
            post.begin(0);
            Check.is("sight " + sight, post.byMist(1, 2, 10), sight == 82 ? 100 : 0);
        }
    }

    private static void moreOftenThanNow() {
        NodPost post = Check.post("farm 0 0 0 1;farm 10 0 0 4;rest 0;");
        post.begin(0);
        post.ticks(1);
        Check.is("0 has nodded already", post.byMist(0, 4, 0), 0);
        Check.is("0 nods again in the 5th", post.byMist(0, 5, 0), 100000);
        Check.is("1 nods first in the 4th", post.byMist(1, 4, 0), 10000);
        Check.is("not in the 3rd", post.byMist(1, 3, 0), 0);
        post.ticks(4);
        Check.is("1 has nodded", post.farm(1, 6), 1);
        Check.is("1 nods again in the 5th", post.byMist(1, 5, 0), 100000);
        Check.is("1 doesn't in the 4th", post.byMist(1, 4, 0), 0);
        Check.is("0 nods in the 1st", post.byMist(0, 1, 0), 10);
        Check.is("nothing changes", post.count(1), 5);
        post.sleep(0, true);
        Check.is("ASLEEP", post.byMist(0, 5, 0), 0);
    }

    // ---- A GAME

    private static void game(String what, NodPost post, int farm, int other, int many, int first) {
        Check.is(what + ", how many", post.game(farm, other, 0), many);
        Check.is(what + ", the first", post.game(farm, other, 1), first);
    }

    private static void whichCouplesRest() {
        NodPost chain = Check.post(CHAIN);
        game("neither begins", chain, 0, 1, 1, 0);
        // Two rows of five, out of sight of each other: whoever begins gains four, and loses three.
        String row = "farm 0 0 0 1;farm 99 0 0 1;farm 2 0 0 1;farm 4 0 0 1;farm 6 0 0 1;farm 8 0 0 1;"
            + "farm 97 0 0 1;farm 95 0 0 1;farm 93 0 0 1;sight 9;rest 9;";
        NodPost rows = Check.post(row);
        // 1's own row is one short: it gains three, and loses three, whatever the other one does.
        game("0 begins, 1 or not", rows, 0, 1, 2, 10);
        game("1 or not, 0 begins", rows, 1, 0, 2, 1);
        NodPost shorter = Check.post(row.replace("farm 93 0 0 1;", ""));
        game("0 begins, 1 doesn't", shorter, 0, 1, 1, 10);
        game("1 doesn't, 0 begins", shorter, 1, 0, 1, 1);
        NodPost longer = Check.post(row.replace("farm 4 0 0 1;", "farm 91 0 0 1;"));
        game("0 or not, 1 begins", longer, 0, 1, 2, 1);
        // By neither, the first, the second and both: 0 and 0, 1 and 2, 1 and -1, 2 and 3.
        NodPost both = Check.post("farm 25 10 0 2;farm 5 20 0 1;farm 65 0 0 2;farm 95 0 0 3;farm 45 20 0 1;"
            + "farm 75 0 0 2;farm 10 10 0 2;sight 35;rest 1;minds seen<2;");
        game("both", both, 0, 1, 1, 11);
        game("both, the other way", both, 1, 0, 1, 11);
        // By neither, the first, the second and both: 0 and 0, 2 and 1, 2 and -1, 1 and 2.
        NodPost none = Check.post("farm 25 10 0 1;farm 5 0 0 1;farm 35 20 0 1;farm 0 10 0 2;farm 45 0 0 1;"
            + "farm 20 20 0 1;sight 15;rest 1;minds seen=1;");
        game("none", none, 0, 1, 0, -1);
        game("none, the other way", none, 1, 0, 0, -1);
        // Each gains as much by either choice, if just one other one nods for each: all four rest.
        NodPost like = Check.post("farm 0 0 0 1;farm 99 0 0 1;farm 2 0 0 1;farm 4 0 0 1;farm 6 0 0 1;"
            + "farm 97 0 0 1;farm 95 0 0 1;farm 93 0 0 1;sight 9;rest 9;");
        game("all four", like, 0, 1, 4, 0);
        sleepersDoNotPlay(like);
    }

    private static void sleepersDoNotPlay(NodPost post) {
        Check.illegal("both are one", () -> post.game(1, 1, 0));
        Check.illegal("both are one", () -> post.game(1, 1, 1));
        post.sleep(1, true);
        game("the other one is ASLEEP", post, 0, 1, -1, -1);
        game("the first one is ASLEEP", post, 1, 0, -1, -1);
        Check.illegal("both are one, ASLEEP", () -> post.game(1, 1, 0));
        Check.noSuch("what, both are one", () -> post.game(1, 1, 2));
        Check.noSuch("what, one is ASLEEP", () -> post.game(0, 1, -1));
        post.sleep(1, false);
        post.sleep(7, true);
        // One less in 1's row: it loses by beginning.
        game("another one is ASLEEP", post, 0, 1, 2, 0);
    }

    /** One loses 1 for each time that one nods, and gains 1 for each other one, however often that one does. */
    private static void whatIsGained() {
        NodPost pair = Check.post("farm 0 0 0 1;farm 10 0 0 1;rest 0;");
        // Neither: 0. Both: 1 - 2 - 1 each. One alone: that one 1 - 2 - 5, the other one 1 - 4.
        game("both, or neither", pair, 0, 1, 2, 0);
        NodPost tired = Check.post("farm 0 0 0 1;farm 10 0 0 1;rest 9;");
        // Both: -2 each, as ahead. One alone: that one 1 - 2 - 1, the other one 1 - 1.
        game("neither", tired, 0, 1, 1, 0);
        NodPost waits = Check.post("farm 0 0 0 1;farm 10 0 0 1;rest 9;");
        waits.begin(0);
        // Who is WAITING already nods anyway; it loses 2 by beginning. The other one: 1 - 1 or 1 - 2 - 1.
        game("who is WAITING doesn't", waits, 0, 1, 1, 0);
        NodPost apart = Check.post("farm 0 0 0 1;farm 99 0 0 1;rest 9;");
        game("a gain by the other one isn't one's own choice", apart, 0, 1, 1, 0);
    }

    private static void nineTicksOfAGame() {
        // 4 nods in the ninth TICK behind 0, or in the tenth; 0 gains by 1, 2 and it, and loses three.
        String row = "farm 0 0 0 1;farm 2 0 0 1;farm 4 0 0 3;farm 99 0 0 1;farm 6 0 0 %d;sight 2;rest 9;";
        NodPost ninth = Check.post(String.format(row, 4));
        Check.is("the ninth", ninth.reaches(0, 4), 9);
        game("the ninth counts", ninth, 0, 3, 2, 0);
        NodPost tenth = Check.post(String.format(row, 5));
        Check.is("the tenth", tenth.reaches(0, 4), 10);
        game("the tenth doesn't", tenth, 0, 3, 1, 0);
    }

    // ---- YEARS

    /** Bits 16 to 30 of each seed, by longs. */
    private static final class Draws {
        private long seed;

        Draws(int seed) {
            this.seed = seed;
        }

        int of(int n) {
            seed = seed * 1103515245L + 12345L & 0xffffffffL;
            return (int) (seed / 65536 % 32768 % n);
        }
    }

    private static final int[] SEEDS = {0, 1, -1, 5, 12345, -12345, 99999, 1 << 16, 1 << 30, Integer.MIN_VALUE,
        Integer.MIN_VALUE + 1, Integer.MAX_VALUE, Integer.MAX_VALUE - 1, 2683, 3116};

    /** One FARM alone nods in each TICK in which it begins, and in no other one. */
    private static void yearsOfOneFarm() {
        NodPost post = Check.post("farm 50 50 0 1;");
        for (int seed : SEEDS) {
            Draws draws = new Draws(seed);
            int nods = 0;
            boolean asleep = false;
            for (int n = 0; n <= 60; n++) {
                Check.is("nods by " + seed + " in " + n, post.years(seed, n, 0), nods);
                Check.is("ASLEEP by " + seed + " in " + n, post.years(seed, n, 1), asleep ? 1 : 0);
                Check.is("silent by " + seed + " in " + n, post.years(seed, n, 2), nods == 0 ? 1 : 0);
                int event = draws.of(6);
                if (event < 3) {
                    draws.of(1);
                }
                nods += event == 0 && !asleep ? 1 : 0;
                asleep = event == 1 ? !asleep : asleep;
                if (event == 2) {
                    draws.of(21);
                }
                draws.of(10);
            }
        }
        Check.is("nothing changes", post.count(1) + post.count(5) + post.count(6) + post.count(10), 0);
    }

    private static void yearsAtBothEnds() {
        NodPost post = Check.post(CHAIN);
        post.begin(1);
        post.sleep(2, true);
        for (int seed : SEEDS) {
            Check.is("none", post.years(seed, 0, 0), 0);
            Check.is("who is ASLEEP now", post.years(seed, 0, 1), 4);
            Check.is("nobody has nodded", post.years(seed, 0, 2), 3);
        }
        for (int n : new int[] {-1, 61, Integer.MIN_VALUE, Integer.MAX_VALUE}) {
            Check.illegal("n " + n, () -> post.years(1, n, 0));
            Check.illegal("n " + n, () -> post.years(1, n, 2));
            Check.noSuch("what, ahead of n", () -> post.years(1, n, 3));
            Check.noSuch("what, ahead of n", () -> post.years(1, n, -1));
        }
        Check.noSuch("what", () -> post.years(1, 0, 3));
        Check.noSuch("what", () -> post.years(1, 60, -1));
        // Nods of before aren't of these TICKS.
        post.ticks(20);
        Check.is("0 and 1 have nodded", post.farm(0, 6) + post.farm(1, 6), 2);
        Check.is("in none of these", post.years(7, 0, 0), 0);
        Check.is("nobody in none of these", post.years(7, 0, 2), 3);
        NodPost none = new NodPost();
        for (int seed : SEEDS) {
            for (int what = 0; what <= 2; what++) {
                Check.is("without FARMS", none.years(seed, 60, what), 0);
                Check.is("without FARMS", none.years(seed, 0, what), 0);
            }
        }
        Check.illegal("without FARMS", () -> none.years(0, 61, 0));
        Check.noSuch("without FARMS", () -> none.years(0, 61, 3));
    }

    /** The highest bit of a seed never gets into bits 16 to 30 of any later one. */
    private static void seedsThatWrap() {
        NodPost post = Check.post(CHAIN + "mist 3;minds seen;");
        for (int seed : SEEDS) {
            for (int what = 0; what <= 2; what++) {
                int due = post.years(seed, 60, what);
                Check.is("seed " + seed, post.years(seed ^ Integer.MIN_VALUE, 60, what), due);
                Check.is("the same seed again", post.years(seed, 60, what), due);
            }
        }
    }
}
