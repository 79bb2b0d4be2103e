/** Promises 30 to 38: see, begun, look, forget, byMist, game, years, image, restore. */
public final class GuessTest {
    /** 0 and 1, 1 and 2 are in sight of each other; 1 is slow. */
    private static final String CHAIN = "farm 0 0 0 1;farm 10 0 0 2;farm 20 0 0 1;sight 10;";
    /** All five are in sight of each other, and rest for long. */
    private static final String BOWL =
        "farm 0 40 0 1;farm 10 10 0 1;farm 20 0 0 1;farm 30 10 0 1;farm 40 40 0 1;rest 9;";

    private GuessTest() {
    }

    public static void main(String[] args) {
        seen();
        begun();
        looks();
        mists();
        games();
        years();
        images();
        imagesOfActsAndSeen();
        Check.end("GuessTest");
    }

    private static void seen() {
        NodPost post = Check.post(CHAIN);
        Check.noSuch("see(3, ..)", () -> post.see(3, 1, true));
        Check.noSuch("see(-1, 0, ..)", () -> post.see(-1, 0, true));
        Check.is("k 0", post.see(0, 0, true), -1);
        Check.is("k 21", post.see(0, 21, true), -1);
        Check.is("refused", post.count(15), 2);
        for (int i = 1; i <= 8; i++) {
            Check.is("see", post.see(0, i % 2 == 0 ? 20 : 1, i == 1), i);
        }
        Check.is("a ninth", post.see(0, 1, true), -1);
        Check.noSuch("a ninth of no farm", () -> post.see(3, 1, true));
        Check.is("refused", post.count(15), 3);
        Check.is("no acts", post.count(10) + post.count(14), 0);
        post.forget();
        Check.is("forgotten", post.count(11), 0);
        Check.is("STATUS stays", post.count(15), 3);
        Check.is("see again", post.see(2, 20, false), 1);
    }

    private static void begun(NodPost post, int many, int first, int without) {
        Check.is("begun(0)", post.begun(0), many);
        Check.is("begun(1)", post.begun(1), first);
        Check.is("begun(2)", post.begun(2), without);
    }

    private static void begun() {
        NodPost post = Check.post(CHAIN);
        Check.noSuch("begun(3)", () -> post.begun(3));
        Check.noSuch("begun(-1)", () -> post.begun(-1));
        begun(post, 3, 0, 1);
        post.see(2, 4, true);
        begun(post, 1, 0, 0);
        post.see(2, 4, false);
        begun(post, 0, -1, 0);
        post.forget();
        post.see(0, 1, false);
        begun(post, 2, 1, 1);
        post.see(2, 2, false);
        begun(post, 1, 2, 1);
        // 2 doesn't nod any more, whoever begins; and by 2 itself nothing does.
        post.sleep(2, true);
        begun(post, 1, 1, 1);
        post.forget();
        begun(post, 2, 0, 1);
        // Others are as they are: 0 is WAITING, so that 1 nods in the third tick by itself.
        post.begin(0);
        post.see(1, 3, true);
        begun(post, 1, 0, 1);
        post.see(0, 20, false);
        begun(post, 1, 0, 1);
        // The k-th TICK is counted from now on.
        post.ticks(1);
        begun(post, 0, -1, 0);
        begun(Check.post("farm 0 0 0 1;farm 10 0 0 5;"), 2, 0, 1);
    }

    private static void looks() {
        NodPost post = Check.post(CHAIN);
        Check.noSuch("look(2)", () -> post.look(2));
        Check.noSuch("look(-1)", () -> post.look(-1));
        Check.is("look(0)", post.look(0), 1);
        Check.is("look(1)", post.look(1), 3);
        post.see(2, 1, false);
        Check.is("look(0)", post.look(0), 1);
        Check.is("look(1)", post.look(1), 2);
        post.see(2, 4, true);
        Check.is("look(0), one is left", post.look(0), 1);
        Check.is("look(1), one is left", post.look(1), 1);
        post.see(2, 4, false);
        Check.is("look(0), none", post.look(0), -1);
        Check.is("look(1), none", post.look(1), 0);
        NodPost like = Check.post(CHAIN);
        like.begin(0);
        like.begin(1);
        Check.is("0 and 1 nod anyway", like.look(1), 2);
    }

    private static void mists() {
        NodPost post = Check.post(CHAIN + "mist 5;");
        post.begin(0);
        Check.is("it has nodded whatever mist", post.byMist(0, 1, 10), 10);
        Check.is("of 100", post.byMist(0, 2, 4), 100);
        Check.is("too soon", post.byMist(1, 2, 0), 0);
        Check.is("no mist", post.byMist(1, 3, 0), 1000);
        Check.is("mist", post.byMist(1, 3, 10), 0);
        Check.is("mist in the first", post.byMist(1, 3, 3), 700);
        Check.is("mist in the first or third", post.byMist(2, 4, 3), 4900);
        Check.is("five", post.byMist(2, 5, 3), 49000);
        Check.is("five, sure", post.byMist(0, 5, 7), 100000);
        Check.is("all is as it was", post.count(1), 0);
        post.ticks(1);
        Check.is("more often than now", post.byMist(0, 5, 0), 0);
        NodPost rule = Check.post("farm 0 0 0 1;farm 1 0 0 1;sight 99;minds mist = 9;");
        rule.begin(0);
        Check.is("the rule's mist", rule.byMist(1, 2, 4), 40);
        Check.noSuch("byMist(3, 0, 0)", () -> post.byMist(3, 0, 0));
        Check.noSuch("byMist(-1, 1, 1)", () -> post.byMist(-1, 1, 1));
        Check.illegal("byMist(0, 0, 5)", () -> post.byMist(0, 0, 5));
        Check.illegal("byMist(0, 6, 5)", () -> post.byMist(0, 6, 5));
        Check.illegal("byMist(0, 1, -1)", () -> post.byMist(0, 1, -1));
        Check.illegal("byMist(0, 1, 11)", () -> post.byMist(0, 1, 11));
    }

    private static void games() {
        NodPost chain = Check.post(CHAIN);
        Check.is("neither begins", chain.game(0, 1, 0), 1);
        Check.is("neither begins", chain.game(0, 1, 1), 0);
        NodPost bowl = Check.post(BOWL);
        Check.is("just one begins", bowl.game(0, 1, 0), 2);
        Check.is("the other one", bowl.game(0, 1, 1), 1);
        // Whoever begins has to nod then; so has who sees it, and nothing is gained by 2 and 3 asleep.
        bowl.sleep(2, true);
        bowl.sleep(3, true);
        Check.is("two less", bowl.game(0, 1, 0), 1);
        Check.is("neither begins", bowl.game(0, 1, 1), 0);
        Check.is("one is ASLEEP", bowl.game(0, 2, 0), -1);
        Check.is("one is ASLEEP", bowl.game(3, 0, 1), -1);
        // One less: who begins gains 3 - 2 - 1, as much as if nobody does.
        bowl.sleep(2, false);
        Check.is("one less", bowl.game(0, 1, 0), 3);
        Check.is("neither begins", bowl.game(0, 1, 1), 0);
        Check.is("no act", bowl.count(10), 3);
        // The first one is out of sight of the rest: it doesn't begin, the other one does.
        NodPost apart = Check.post(BOWL + "farm 99 0 0 1;sight 40;");
        Check.is("apart", apart.game(5, 0, 0), 1);
        Check.is("apart", apart.game(5, 0, 1), 1);
        Check.is("apart, the other way", apart.game(0, 5, 1), 10);
        nineTicksOfAGame();
        Check.noSuch("game(6, 0, 0)", () -> apart.game(6, 0, 0));
        Check.noSuch("game(0, 6, 0)", () -> apart.game(0, 6, 0));
        Check.noSuch("game(6, 6, 0)", () -> apart.game(6, 6, 0));
        Check.noSuch("game(1, 1, 2)", () -> apart.game(1, 1, 2));
        Check.noSuch("game(1, 2, -1)", () -> apart.game(1, 2, -1));
        Check.illegal("game(1, 1, 0)", () -> apart.game(1, 1, 0));
        apart.sleep(1, true);
        Check.illegal("game(1, 1, 1), ASLEEP", () -> apart.game(1, 1, 1));
    }

    private static void nineTicksOfAGame() {
        // 3 nods in the sixth tick, and only 4 sees it: in the ninth it is the fourth to nod, in the tenth too late.
        String bowl = "farm 0 40 0 1;farm 3 10 0 1;farm 6 5 0 1;farm 9 30 0 5;farm 99 0 0 1;sight 10;rest 9;";
        NodPost soon = Check.post(bowl + "farm 19 0 0 3;");
        Check.is("the ninth counts", soon.game(0, 4, 0), 1);
        Check.is("the ninth counts", soon.game(0, 4, 1), 10);
        NodPost late = Check.post(bowl + "farm 19 0 0 4;");
        Check.is("the tenth doesn't", late.game(0, 4, 0), 2);
        Check.is("the tenth doesn't", late.game(0, 4, 1), 0);
        NodPost begun = Check.post(BOWL);
        begun.begin(2);
        Check.is("2 is WAITING already", begun.game(0, 1, 0), 1);
        Check.is("2 is WAITING already", begun.game(0, 1, 1), 0);
        // Who is WAITING nods, whatever is chosen; it only loses by beginning.
        Check.is("2 itself", begun.game(2, 1, 0), 1);
        Check.is("2 itself", begun.game(2, 1, 1), 0);
    }

    private static void years(NodPost post, int seed, int n, int nods, int asleep, int silent) {
        Check.is("years(" + seed + ", " + n + ", 0)", post.years(seed, n, 0), nods);
        Check.is("years(" + seed + ", " + n + ", 1)", post.years(seed, n, 1), asleep);
        Check.is("years(" + seed + ", " + n + ", 2)", post.years(seed, n, 2), silent);
    }

    private static void years() {
        NodPost post = Check.post(CHAIN + "mist 4;");
        years(post, 1, 0, 0, 0, 3);
        // 0 begins, no mist; mist 6; no mist; no mist: all nod as in the chain.
        years(post, 2683, 1, 1, 0, 2);
        years(post, 2683, 3, 2, 0, 1);
        years(post, 2683, 4, 3, 0, 0);
        // 0 begins in mist 9: nobody sees it.
        years(post, 3116, 4, 1, 0, 2);
        // 1 falls ASLEEP; it can't begin, then, nor in the fourth tick.
        years(post, 23, 1, 0, 2, 3);
        years(post, 23, 4, 0, 2, 3);
        // 2 falls ASLEEP, wakes, and begins in mist.
        years(post, 371, 1, 0, 4, 3);
        years(post, 371, 2, 0, 0, 3);
        years(post, 371, 3, 1, 0, 2);
        post.begin(2);
        // What was WAITING nods; who falls ASLEEP doesn't.
        years(post, 23, 1, 1, 2, 2);
        years(post, 371, 1, 0, 4, 3);
        Check.is("all is as it was", post.count(6), 4);
        hatsOfYears();
        NodPost none = new NodPost();
        years(none, 5, 60, 0, 0, 0);
        Check.noSuch("years(0, 61, 3)", () -> post.years(0, 61, 3));
        Check.noSuch("years(0, 0, -1)", () -> post.years(0, 0, -1));
        Check.illegal("years(0, -1, 0)", () -> post.years(0, -1, 0));
        Check.illegal("years(0, 61, 2)", () -> post.years(0, 61, 2));
    }

    private static void hatsOfYears() {
        // 1 gets the hat of 17, or of 4; 0 begins; 2 minds it only over 1, which doesn't mind anything.
        NodPost post = Check.post("farm 0 10 0 1;farm 10 5 20 1;farm 20 10 0 1;minds far = 20;");
        years(post, 11296, 3, 1, 0, 2);
        years(post, 30216, 3, 2, 0, 1);
        Check.is("the hat stays", post.farm(1, 2), 20);
        Check.is("in the way still", post.between(0, 2), 2);
        years(Check.post("farm 0 22 0 1;farm 10 5 0 1;farm 20 22 0 1;minds far = 20;"), 11296, 3, 1, 0, 2);
        years(Check.post("farm 0 22 0 1;farm 10 4 0 1;farm 20 22 0 1;minds far = 20;"), 11296, 3, 2, 0, 1);
    }

    private static void imagesOfActsAndSeen() {
        NodPost post = Check.post(CHAIN);
        post.hat(0, 1);
        post.hat(0, 2);
        post.hat(0, 3);
        post.see(2, 4, true);
        post.image();
        for (int i = 0; i < 3; i++) {
            post.undo();
        }
        for (int hat = 11; hat <= 15; hat++) {
            post.hat(0, hat);
        }
        post.forget();
        post.see(0, 1, false);
        post.restore();
        Check.is("begun as the image has it", post.begun(0) * 10 + post.begun(1), 10);
        for (int hat = 2; hat >= 0; hat--) {
            Check.is("undo as the image has it", post.undo(), hat);
            Check.is("HAT", post.farm(0, 2), hat);
        }
    }

    private static void images() {
        NodPost post = Check.post("farm 0 10 0 1;farm 10 5 4 2;farm 20 10 0 1;");
        Check.is("none", post.restore(), false);
        post.begin(0);
        post.ticks(1);
        post.hat(1, 9);
        post.sleep(2, true);
        post.sleep(2, true);
        post.see(0, 3, true);
        post.see(0, 30, true);
        post.feed(0, 0, 0, 0, 0);
        post.image();
        int[] counts = new int[16];
        for (int what = 0; what < counts.length; what++) {
            counts[what] = post.count(what);
        }
        for (int again = 0; again < 2; again++) {
            post.sleep(2, false);
            post.hat(1, 0);
            post.ticks(20);
            post.ticks(0);
            post.see(2, 1, false);
            post.see(2, 0, false);
            post.begin(2);
            if (again == 1) {
                post.forget();
                for (int i = 0; i < 9; i++) {
                    post.undo();
                }
            }
            Check.is("restore", post.restore(), true);
            for (int what = 0; what < counts.length; what++) {
                Check.is("as the image, count " + what, post.count(what), counts[what]);
            }
            int[] farm = {10, 5, 9, 2, 2, 0, 0, 0, 0, 5};
            for (int what = 0; what < farm.length; what++) {
                Check.is("as the image, farm 1, " + what, post.farm(1, what), farm[what]);
            }
            Check.is("as the image, 9 is in the way", post.farm(0, 9), 2);
            Check.is("0 RESTS", post.farm(0, 5), 3);
            Check.is("0 has nodded", post.farm(0, 6), 1);
            Check.is("what is SEEN", post.begun(2), 0);
        }
        post.undo();
        post.image();
        Check.is("another one in its place", post.undo(), 2);
        Check.is("restore", post.restore(), true);
        Check.is("acts", post.count(10), 3);
        Check.is("undo behind restore", post.undo(), 2);
        Check.is("HAT", post.farm(1, 2), 4);
        Check.is("the tape isn't of it", post.count(12), 20);
    }
}
