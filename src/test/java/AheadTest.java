/** Promises 13 to 23 and 29: what comes if only TICKS go by, and whom a nod reaches. */
public final class AheadTest {
    /** 0 and 1, 1 and 2 are in sight of each other; 1 is slow. */
    private static final String CHAIN = "farm 0 0 0 1;farm 10 0 0 2;farm 20 0 0 1;sight 10;";

    private AheadTest() {
    }

    public static void main(String[] args) {
        ticksThatGoBy();
        nodsWithoutRest();
        wrongInputs();
        whomANodReaches();
        whoSleeps();
        whatIsHushed();
        fewestToBegin();
        aCircleOfWays();
        throughTheFirst();
        sixtyTicks();
        Check.end("AheadTest");
    }

    private static void ticksThatGoBy() {
        NodPost post = Check.post(CHAIN);
        Check.is("still already", post.still(), 0);
        Check.is("loudest of none", post.loudest(60), 1);
        Check.is("crowd of none", post.crowd(60, 0), 0);
        Check.is("oftenest of none", post.oftenest(60), 0);
        Check.is("first of none", post.first(0), -1);
        post.begin(0);
        int[] nodding = {1, 0, 2, 4, 0, 0};
        for (int k = 1; k <= nodding.length; k++) {
            Check.is("nodding " + k, post.nodding(k), nodding[k - 1]);
        }
        Check.is("nodding 60", post.nodding(60), 0);
        int[] waiting = {0, 2, 1, 0};
        int[] nods = {0, 0, 0, 1};
        for (int ticks = 0; ticks < waiting.length; ticks++) {
            Check.is("then WAITING " + ticks, post.then(1, ticks, 0), waiting[ticks]);
            Check.is("then nods " + ticks, post.then(1, ticks, 1), nods[ticks]);
        }
        Check.is("then 60", post.then(2, 60, 1), 1);
        int[] first = {1, 3, 4};
        for (int farm = 0; farm < 3; farm++) {
            Check.is("first " + farm, post.first(farm), first[farm]);
        }
        Check.is("still", post.still(), 4);
        Check.is("loudest", post.loudest(9), 1);
        Check.is("oftenest", post.oftenest(9), 0);
        Check.is("crowd, most", post.crowd(9, 0), 1);
        Check.is("crowd, nobody", post.crowd(9, 1), 6);
        Check.is("crowd, nobody in 1", post.crowd(1, 1), 0);
        Check.is("nothing has changed", post.count(1), 0);
        Check.is("no act", post.count(10), 1);
        post.ticks(2);
        Check.is("nods count from now on", post.oftenest(9), 1);
        Check.is("first, from now on", post.first(1), 1);
        Check.is("first, never again", post.first(0), -1);
        Check.is("then has all nods", post.then(0, 9, 1), 1);
    }

    private static void nodsWithoutRest() {
        NodPost post = Check.post(CHAIN + "rest 0;");
        post.begin(0);
        int[] nodding = {1, 0, 2, 5, 0, 2, 5, 0, 2};
        for (int k = 1; k <= nodding.length; k++) {
            Check.is("nodding " + k, post.nodding(k), nodding[k - 1]);
        }
        Check.is("never still", post.still(), -1);
        Check.is("loudest", post.loudest(9), 4);
        Check.is("loudest of 3", post.loudest(3), 1);
        Check.is("loudest of 4", post.loudest(4), 4);
        Check.is("loudest of 1", post.loudest(1), 1);
        Check.is("oftenest of 1", post.oftenest(1), 0);
        Check.is("oftenest, the least of like ones", post.oftenest(9), 0);
        Check.is("oftenest of 3", post.oftenest(3), 0);
        Check.is("crowd, most", post.crowd(9, 0), 2);
        Check.is("crowd of 3, most", post.crowd(3, 0), 1);
        Check.is("crowd, nobody", post.crowd(9, 1), 3);
        Check.is("then 60", post.then(1, 60, 1), 20);
        post.undo();
        post.begin(1);
        Check.is("oftenest", post.oftenest(4), 1);
    }

    private static void wrongInputs() {
        NodPost post = Check.post(CHAIN);
        int[] wrong = {0, -1, 61, Integer.MIN_VALUE, Integer.MAX_VALUE};
        for (int ticks : wrong) {
            Check.illegal("nodding", () -> post.nodding(ticks));
            Check.illegal("loudest", () -> post.loudest(ticks));
            Check.illegal("oftenest", () -> post.oftenest(ticks));
            Check.illegal("best", () -> post.best(ticks));
            Check.illegal("toBegin", () -> post.toBegin(ticks));
            Check.illegal("crowd", () -> post.crowd(ticks, 1));
            Check.noSuch("crowd, what ahead", () -> post.crowd(ticks, 2));
            Check.is("then of 0 is fine", Check.answer(() -> post.then(0, ticks, 0)), ticks == 0 ? 0 : Check.ILLEGAL);
            Check.is("reached of 0 is fine", Check.answer(() -> post.reached(0, ticks)), ticks == 0 ? 0 : Check.ILLEGAL);
        }
        for (int farm : new int[] {-1, 3, Integer.MIN_VALUE, Integer.MAX_VALUE}) {
            Check.noSuch("then", () -> post.then(farm, 99, 0));
            Check.noSuch("first", () -> post.first(farm));
            Check.noSuch("reaches", () -> post.reaches(farm, 0));
            Check.noSuch("reaches", () -> post.reaches(0, farm));
            Check.noSuch("reached", () -> post.reached(farm, 99));
            Check.noSuch("through", () -> post.through(farm, 0));
            Check.noSuch("through", () -> post.through(0, farm));
        }
        Check.noSuch("then, what -1", () -> post.then(0, 99, -1));
        Check.noSuch("then, what 2", () -> post.then(0, 1, 2));
        Check.noSuch("crowd, what -1", () -> post.crowd(1, -1));
        NodPost none = new NodPost();
        Check.is("oftenest without farms", none.oftenest(60), -1);
        Check.is("best without farms", none.best(60), -1);
        Check.is("toBegin without farms", none.toBegin(60), 0);
        Check.is("crowd without farms", none.crowd(60, 1), 60);
    }

    private static void whomANodReaches() {
        NodPost post = Check.post(CHAIN);
        int[][] reaches = {{1, 3, 4}, {2, 1, 2}, {4, 3, 1}};
        for (int farm = 0; farm < 3; farm++) {
            for (int other = 0; other < 3; other++) {
                Check.is("reaches " + farm + ", " + other, post.reaches(farm, other), reaches[farm][other]);
            }
        }
        int[] reached = {0, 1, 1, 3, 7, 7};
        for (int ticks = 0; ticks < reached.length; ticks++) {
            Check.is("reached in " + ticks, post.reached(0, ticks), reached[ticks]);
        }
        Check.is("reached in 60", post.reached(2, 60), 7);
        Check.is("through", post.through(0, 2), 2);
        Check.is("through to the next", post.through(0, 1), 0);
        Check.is("through to oneself", post.through(1, 1), 0);
        Check.is("best in 1", post.best(1), 0);
        Check.is("best in 2", post.best(2), 1);
        Check.is("best in 60", post.best(60), 0);
    }

    private static void whoSleeps() {
        NodPost post = Check.post(CHAIN);
        post.sleep(1, true);
        Check.is("reaches by who is ASLEEP", post.reaches(1, 1), -1);
        Check.is("reached by who is ASLEEP", post.reached(1, 60), 0);
        Check.is("reaches who is ASLEEP", post.reaches(0, 1), -1);
        Check.is("reaches through who is ASLEEP", post.reaches(0, 2), -1);
        Check.is("through: it isn't reached now", post.through(0, 2), 0);
        Check.is("toBegin", post.toBegin(60), 5);
        post.sleep(0, true);
        Check.is("best", post.best(1), 2);
        Check.is("toBegin", post.toBegin(1), 4);
        post.sleep(2, true);
        Check.is("best, all ASLEEP", post.best(60), 0);
        Check.is("toBegin, all ASLEEP", post.toBegin(60), 0);
    }

    private static void whatIsHushed() {
        NodPost post = Check.post(CHAIN);
        post.begin(0);
        post.ticks(1);
        post.begin(2);
        Check.is("0 RESTS, yet begins", post.reaches(0, 0), 1);
        Check.is("1 isn't WAITING, 2 neither", post.reached(0, 2), 1);
        Check.is("as on a new one", post.reaches(0, 2), 4);
        Check.is("0 doesn't REST", post.reaches(1, 0), 2);
        Check.is("all is as it was", post.count(6), 6);
        NodPost nods = Check.post(CHAIN + "minds nods < 1;");
        nods.begin(1);
        nods.ticks(9);
        Check.is("nods stay", nods.reached(0, 60), 1);
    }

    private static void fewestToBegin() {
        NodPost post = Check.post(CHAIN);
        int[] due = {7, 2, 2, 1, 1};
        for (int ticks = 1; ticks <= due.length; ticks++) {
            Check.is("toBegin in " + ticks, post.toBegin(ticks), due[ticks - 1]);
        }
        // Two couples, out of sight of each other: of as few the least.
        NodPost two = Check.post("farm 0 0 0 1;farm 90 0 0 1;farm 5 0 0 1;farm 95 0 0 1;");
        Check.is("toBegin of two couples", two.toBegin(2), 3);
        two.sleep(0, true);
        Check.is("toBegin, 0 ASLEEP", two.toBegin(2), 6);
        NodPost deaf = Check.post("farm 0 0 0 1;farm 5 0 0 1;farm 9 0 0 1;minds 0;");
        Check.is("toBegin, nobody minds", deaf.toBegin(60), 7);
    }

    private static void throughTheFirst() {
        NodPost post = Check.post("farm 10 0 0 1;farm 0 0 0 1;farm 20 0 0 1;farm 30 0 0 1;sight 10;");
        Check.is("through 0", post.through(1, 2), 1);
        Check.is("through 0 and 2", post.through(1, 3), 5);
        NodPost apart = Check.post("farm 0 0 0 1;farm 80 0 0 1;farm 90 0 0 1;farm 99 0 0 1;sight 10;");
        Check.is("through, not reached", apart.through(0, 3), 0);
        Check.is("through, reached", apart.through(1, 3), 4);
    }

    /** Two nod in turn; 2 minds it in one tick only, the one told, and nods in the next one. */
    private static void sixtyTicks() {
        String twoInTurn = "shepherd 0 0 0 1;shepherd 5 0 0 1;farm 9 0 0 1;farm 12 0 0 1;sight 5;rest 0;minds tick = ";
        NodPost last = Check.post(twoInTurn + "57;");
        Check.is("reached in 59", last.reaches(0, 2), 59);
        NodPost late = Check.post(twoInTurn + "59;");
        Check.is("1 nods in the even ones", late.nodding(2), 0);
        late.begin(1);
        Check.is("1 nods in the odd ones", late.nodding(59), 2);
        Check.is("2 sees none in the 60th", late.first(2), -1);
        NodPost sixtieth = Check.post(twoInTurn + "58;");
        sixtieth.begin(1);
        Check.is("first in the 60th", sixtieth.first(2), 60);
        Check.is("reaches in the 60th", sixtieth.reaches(1, 2), 60);
        Check.is("reached in 60", sixtieth.reached(1, 60), 7);
        Check.is("reached in 59", sixtieth.reached(1, 59), 3);
        NodPost ends = Check.post("farm 0 0 0 1;farm 5 0 0 1;rest 0;minds tick < 59;");
        ends.begin(0);
        Check.is("still behind the 60th", ends.still(), 60);
        NodPost goesOn = Check.post("farm 0 0 0 1;farm 5 0 0 1;rest 0;minds tick < 60;");
        goesOn.begin(0);
        Check.is("still behind the 61st", goesOn.still(), -1);
    }

    private static void aCircleOfWays() {
        // 0 and 3 are too far apart; 1 or 2 lets the nod through, and 3 sees both.
        NodPost post = Check.post("farm 0 20 0 1;farm 20 9 0 1;farm 30 7 0 1;farm 50 20 0 1;sight 30;");
        Check.is("0 sees both", post.farm(0, 9), 6);
        Check.is("3 sees both", post.farm(3, 9), 6);
        Check.is("through, none alone", post.through(0, 3), 0);
        post.sleep(2, true);
        Check.is("through, the other one ASLEEP", post.through(0, 3), 2);
        // Mist in every second tick: 1 sees 0 only if it nods in the other ones.
        NodPost misty = Check.post("farm 0 0 0 1;farm 10 0 0 1;sight 10;mist 1 0;");
        Check.is("in mist", misty.reaches(0, 1), -1);
        misty.ticks(1);
        Check.is("in none", misty.reaches(0, 1), 2);
    }
}
