/** Terms, part 3, and promises 13 to 29: the first TICK and the 60th, of like ones which, none, without FARMS. */
public final class AheadEdgesTest {
    /** 0 and 1, 1 and 2 are in sight of each other; 1 is slow. */
    private static final String CHAIN = "farm 0 0 0 1;farm 10 0 0 2;farm 20 0 0 1;sight 10;";
    /** 0 and 1 nod in turn, for ever; 1 alone is in sight of 2, which is told behind it. */
    private static final String IN_TURN = "shepherd 0 0 0 1;shepherd 5 0 0 1;sight 5;rest 0;";

    private AheadEdgesTest() {
    }

    public static void main(String[] args) {
        withoutFarms();
        numbersOfTicks();
        theSixtiethNod();
        thenAtBothEnds();
        stillAtBothEnds();
        loudestOfLikeOnes();
        oftenestOfLikeOnes();
        crowds();
        reachesAtBothEnds();
        reachedByNoneAndAll();
        throughSixty();
        bestOfLikeOnes();
        fewestToBegin();
        allWouldBeHushed();
        ways();
        partsAndWatches();
        stares();
        hats();
        inTheWay();
        lines();
        mistOfTheTickThatComes();
        Check.end("AheadEdgesTest");
    }

    /** 2 minds only the nod of 1 in the 58th TICK, and is so slow. */
    private static NodPost late(int slow) {
        return Check.post(IN_TURN + "farm 10 0 0 " + slow + ";minds tick = 57;");
    }

    private static void withoutFarms() {
        NodPost post = new NodPost();
        for (int ticks : new int[] {1, 60}) {
            Check.is("nodding", post.nodding(ticks), 0);
            Check.is("loudest", post.loudest(ticks), 1);
            Check.is("oftenest", post.oftenest(ticks), -1);
            Check.is("best", post.best(ticks), -1);
            Check.is("toBegin", post.toBegin(ticks), 0);
            Check.is("crowd, most", post.crowd(ticks, 0), 0);
            Check.is("crowd, nobody", post.crowd(ticks, 1), ticks);
        }
        Check.is("still", post.still(), 0);
        Check.is("line", post.line(), 0);
        Check.is("PARTS", post.count(7), 0);
        Check.is("A WATCH", post.count(8), 0);
        Check.is("A STARE", post.count(9), -1);
        Check.is("ASLEEP", post.count(5), 0);
        Check.is("WAITING", post.count(6), 0);
        for (int farm : new int[] {-1, 0, 1, 8, 9}) {
            Check.noSuch("first", () -> post.first(farm));
            Check.noSuch("then", () -> post.then(farm, 0, 0));
            Check.noSuch("reaches", () -> post.reaches(farm, farm));
            Check.noSuch("reached", () -> post.reached(farm, 0));
            Check.noSuch("through", () -> post.through(farm, farm));
            Check.noSuch("way", () -> post.way(farm, farm));
            Check.noSuch("toHat", () -> post.toHat(farm, farm));
            Check.noSuch("between", () -> post.between(farm, farm));
            Check.noSuch("hidden", () -> post.hidden(farm));
        }
    }

    private static void numbersOfTicks() {
        NodPost post = Check.post(CHAIN);
        for (int ticks : new int[] {Integer.MIN_VALUE, -60, -1, 0, 1, 2, 59, 60, 61, 62, Integer.MAX_VALUE}) {
            boolean fine = ticks >= 1 && ticks <= 60;
            boolean fineOrNone = fine || ticks == 0;
            taken("nodding", ticks, fine, Check.answer(() -> post.nodding(ticks)));
            taken("loudest", ticks, fine, Check.answer(() -> post.loudest(ticks)));
            taken("oftenest", ticks, fine, Check.answer(() -> post.oftenest(ticks)));
            taken("best", ticks, fine, Check.answer(() -> post.best(ticks)));
            taken("toBegin", ticks, fine, Check.answer(() -> post.toBegin(ticks)));
            taken("crowd, most", ticks, fine, Check.answer(() -> post.crowd(ticks, 0)));
            taken("crowd, nobody", ticks, fine, Check.answer(() -> post.crowd(ticks, 1)));
            taken("then, WAITING", ticks, fineOrNone, Check.answer(() -> post.then(2, ticks, 0)));
            taken("then, nods", ticks, fineOrNone, Check.answer(() -> post.then(2, ticks, 1)));
            taken("reached", ticks, fineOrNone, Check.answer(() -> post.reached(2, ticks)));
        }
    }

    private static void taken(String call, int ticks, boolean fine, Object answer) {
        Check.is(call + " of " + ticks + " is taken", !answer.equals(Check.ILLEGAL), fine);
    }

    private static void theSixtiethNod() {
        NodPost post = late(2);
        Check.is("first, nobody begins", post.first(0), -1);
        post.begin(0);
        Check.is("first of who begins", post.first(0), 1);
        Check.is("first of the next one", post.first(1), 2);
        Check.is("first in the 60th", post.first(2), 60);
        Check.is("nodding in the 1st", post.nodding(1), 1);
        Check.is("nodding in the 59th", post.nodding(59), 1);
        Check.is("nodding in the 60th", post.nodding(60), 2 | 4);
        NodPost later = late(3);
        later.begin(0);
        Check.is("first in the 61st", later.first(2), -1);
        Check.is("nodding in the 60th", later.nodding(60), 2);
        later.ticks(1);
        Check.is("first in the 60th from now on", later.first(2), 60);
        later.ticks(20);
        Check.is("first in the 40th from now on", later.first(2), 40);
    }

    private static void thenAtBothEnds() {
        NodPost post = late(3);
        post.begin(0);
        Check.is("WAITING, behind none", post.then(0, 0, 0), 1);
        Check.is("nods, behind none", post.then(0, 0, 1), 0);
        Check.is("WAITING, behind one", post.then(0, 1, 0), 0);
        Check.is("nods, behind one", post.then(0, 1, 1), 1);
        int[] waits = {0, 3, 2, 1};
        for (int ticks = 57; ticks <= 60; ticks++) {
            Check.is("WAITING, behind " + ticks, post.then(2, ticks, 0), waits[ticks - 57]);
            Check.is("nods, behind " + ticks, post.then(2, ticks, 1), 0);
        }
        Check.is("nods of 0 behind 60", post.then(0, 60, 1), 30);
        Check.is("nods of 1 behind 59", post.then(1, 59, 1), 29);
        Check.is("nods of 1 behind 60", post.then(1, 60, 1), 30);
        post.ticks(1);
        Check.is("nods so far count, too", post.then(0, 60, 1), 31);
        Check.is("nods, behind none", post.then(0, 0, 1), 1);
        Check.is("2 nods in the 60th", post.then(2, 60, 1), 1);
        Check.noSuch("what", () -> post.then(0, 0, 2));
        Check.noSuch("what", () -> post.then(0, 0, -1));
        Check.noSuch("what, ahead of ticks", () -> post.then(0, 61, 2));
        Check.noSuch("farm, ahead of ticks", () -> post.then(3, -1, 0));
    }

    private static void stillAtBothEnds() {
        NodPost post = Check.post("farm 0 0 0 1;farm 5 0 0 1;rest 0;minds tick < 59;");
        Check.is("already", post.still(), 0);
        post.begin(0);
        Check.is("behind 60", post.still(), 60);
        post.ticks(1);
        Check.is("behind 59", post.still(), 59);
        NodPost later = Check.post("farm 0 0 0 1;farm 5 0 0 1;rest 0;minds tick < 60;");
        later.begin(0);
        Check.is("behind 61", later.still(), -1);
        later.ticks(1);
        Check.is("behind 60", later.still(), 60);
        NodPost alone = Check.post("farm 0 0 0 1;");
        alone.begin(0);
        Check.is("behind 1", alone.still(), 1);
        alone.ticks(1);
        Check.is("already, though it RESTS", alone.still(), 0);
    }

    private static void loudestOfLikeOnes() {
        NodPost post = late(2);
        Check.is("nobody nods", post.loudest(60), 1);
        post.begin(0);
        Check.is("of like ones the first", post.loudest(59), 1);
        Check.is("of 1", post.loudest(1), 1);
        Check.is("the 60th", post.loudest(60), 60);
        NodPost chain = Check.post(CHAIN + "rest 0;");
        chain.begin(0);
        Check.is("the 4th, and the 7th", chain.loudest(60), 4);
        chain.ticks(1);
        Check.is("now the 3rd", chain.loudest(60), 3);
        Check.is("of 2, the 2nd", chain.loudest(2), 2);
        Check.is("of 1, none", chain.loudest(1), 1);
    }

    private static void oftenestOfLikeOnes() {
        NodPost post = Check.post(CHAIN + "rest 0;");
        Check.is("nobody nods: the least", post.oftenest(60), 0);
        post.begin(2);
        Check.is("of 1", post.oftenest(1), 2);
        Check.is("of 3: once each", post.oftenest(3), 1);
        Check.is("of 4: 2 twice", post.oftenest(4), 2);
        NodPost sixty = late(2);
        sixty.begin(1);
        Check.is("of 59", sixty.oftenest(59), 1);
        Check.is("of 60: 30 each", sixty.oftenest(60), 0);
        sixty.ticks(1);
        Check.is("from now on: of 1", sixty.oftenest(1), 0);
        Check.is("from now on: of 2, once each", sixty.oftenest(2), 0);
        Check.is("one FARM", Check.post("farm 5 0 0 1;").oftenest(60), 0);
    }

    private static void crowds() {
        NodPost post = late(2);
        Check.is("nobody", post.crowd(60, 0), 0);
        Check.is("in none", post.crowd(60, 1), 60);
        post.begin(0);
        Check.is("of 59", post.crowd(59, 0), 1);
        Check.is("of 60", post.crowd(60, 0), 2);
        Check.is("in each", post.crowd(60, 1), 0);
        NodPost ends = Check.post("farm 0 0 0 1;farm 5 0 0 1;rest 0;minds tick < 58;");
        ends.begin(0);
        Check.is("in each of 59", ends.crowd(59, 1), 0);
        Check.is("not in the 60th", ends.crowd(60, 1), 1);
        Check.noSuch("what", () -> post.crowd(1, 2));
        Check.noSuch("what", () -> post.crowd(1, -1));
        Check.noSuch("what, ahead of ticks", () -> post.crowd(0, 2));
        Check.noSuch("what, ahead of ticks", () -> post.crowd(61, -1));
    }

    private static void reachesAtBothEnds() {
        Check.is("oneself", late(2).reaches(0, 0), 1);
        Check.is("the 60th", late(2).reaches(0, 2), 60);
        Check.is("the 61st", late(3).reaches(0, 2), -1);
        NodPost post = late(2);
        post.sleep(1, true);
        Check.is("who is ASLEEP isn't reached", post.reaches(0, 1), -1);
        Check.is("who is ASLEEP reaches none", post.reaches(1, 0), -1);
        Check.is("nor oneself", post.reaches(1, 1), -1);
        Check.is("one ASLEEP lets none through", post.reaches(0, 2), -1);
        Check.is("oneself still", post.reaches(0, 0), 1);
        for (int farm : new int[] {-1, 3, 9, Integer.MIN_VALUE, Integer.MAX_VALUE}) {
            Check.noSuch("farm", () -> post.reaches(farm, 0));
            Check.noSuch("other", () -> post.reaches(0, farm));
        }
    }

    private static void reachedByNoneAndAll() {
        NodPost post = late(2);
        Check.is("in none", post.reached(0, 0), 0);
        Check.is("in 1", post.reached(0, 1), 1);
        Check.is("in 2", post.reached(0, 2), 3);
        Check.is("in 59", post.reached(0, 59), 3);
        Check.is("in 60", post.reached(0, 60), 7);
        Check.is("in 60, too late", late(3).reached(0, 60), 3);
        Check.is("by 2 alone", post.reached(2, 60), 7);
        post.sleep(0, true);
        Check.is("by who is ASLEEP", post.reached(0, 60), 0);
        Check.is("but for who is ASLEEP", post.reached(2, 60), 6);
        Check.noSuch("farm, ahead of ticks", () -> post.reached(3, 61));
        Check.noSuch("farm, ahead of ticks", () -> post.reached(-1, -1));
        StringBuilder nine = new StringBuilder();
        for (int farm = 0; farm < 9; farm++) {
            nine.append("farm ").append(farm).append(" 0 0 5;");
        }
        Check.is("all nine", Check.post(nine.toString()).reached(0, 60), 511);
        Check.is("eight, the ninth too late", Check.post(nine.toString()).reached(0, 40), 255);
        Check.is("the ninth", Check.post(nine.toString()).reached(0, 41), 511);
    }

    private static void throughSixty() {
        Check.is("reached in the 60th", late(2).through(0, 2), 2);
        Check.is("not reached in 60", late(3).through(0, 2), 0);
        Check.is("to oneself", late(2).through(1, 1), 0);
        Check.is("to the next one", late(2).through(0, 1), 0);
        // 2 lets the nod through to 4 in the 60th TICK, 3 in the 61st: without 2 it comes too late.
        String twoWays = "shepherd 0 0 0 1;shepherd 5 10 0 1;farm 15 5 0 1;farm 14 5 0 %d;shepherd 24 10 0 1;"
            + "sight 10;rest 0;minds tick = 57;";
        NodPost post = Check.post(String.format(twoWays, 2));
        Check.is("in the 60th", post.reaches(0, 4), 60);
        Check.is("too late without 2", post.through(0, 4), 2 | 4);
        NodPost both = Check.post(String.format(twoWays, 1));
        Check.is("in time by either", both.through(0, 4), 2);
        both.sleep(3, true);
        Check.is("3 is ASLEEP already", both.through(0, 4), 2 | 4);
        both.sleep(0, true);
        Check.is("0 is ASLEEP", both.through(0, 4), 0);
        both.sleep(0, false);
        both.sleep(4, true);
        Check.is("4 is ASLEEP", both.through(0, 4), 0);
        NodPost chain = Check.post("farm 0 0 0 1;farm 10 0 0 1;farm 20 0 0 1;farm 30 0 0 1;farm 40 0 0 1;farm 50 0 0 1;"
            + "farm 60 0 0 1;farm 70 0 0 1;farm 80 0 0 1;sight 10;");
        Check.is("all seven between", chain.through(0, 8), 254);
        Check.is("back", chain.through(8, 0), 254);
        for (int farm : new int[] {-1, 9, Integer.MIN_VALUE, Integer.MAX_VALUE}) {
            Check.noSuch("farm", () -> chain.through(farm, 0));
            Check.noSuch("other", () -> chain.through(0, farm));
        }
    }

    private static void bestOfLikeOnes() {
        NodPost post = Check.post(CHAIN);
        Check.is("in 1 each one reaches oneself", post.best(1), 0);
        Check.is("in 2 the one in the middle", post.best(2), 1);
        Check.is("in 4 each one", post.best(4), 0);
        post.sleep(0, true);
        Check.is("0 is ASLEEP", post.best(1), 1);
        post.sleep(1, true);
        post.sleep(2, true);
        Check.is("all are: the least", post.best(60), 0);
        // 2 reaches both in the third TICK; 1 reaches 2 in the 60th, 0 doesn't, as it nods in odd ones.
        NodPost sixty = Check.post("shepherd 5 0 0 1;shepherd 0 0 0 1;farm 10 0 0 2;sight 5;rest 0;minds tick = 57;");
        Check.is("in 2: 0 and 1 as many", sixty.best(2), 0);
        Check.is("in 59: 2 one more", sixty.best(59), 2);
        Check.is("in 60: 1 as many", sixty.best(60), 1);
        Check.is("one FARM", Check.post("farm 5 0 0 1;").best(1), 0);
    }

    private static void fewestToBegin() {
        NodPost post = late(2);
        Check.is("in 1: all", post.toBegin(1), 7);
        Check.is("in 2: 1 lets 0 nod", post.toBegin(2), 5);
        Check.is("in 59", post.toBegin(59), 4);
        Check.is("in 60", post.toBegin(60), 1);
        post.sleep(2, true);
        Check.is("2 is ASLEEP", post.toBegin(60), 1);
        post.sleep(0, true);
        Check.is("0, too", post.toBegin(60), 2);
        post.sleep(1, true);
        Check.is("all are", post.toBegin(1), 0);
        Check.is("all are", post.toBegin(60), 0);
        StringBuilder nine = new StringBuilder();
        for (int farm = 0; farm < 9; farm++) {
            nine.append("farm ").append(10 * farm).append(" 0 0 1;");
        }
        Check.is("nine, and nobody minds", Check.post(nine + "minds 0;").toBegin(60), 511);
        Check.is("nine in a row, in 9", Check.post(nine + "sight 10;").toBegin(9), 1);
        Check.is("nine in a row, in 8", Check.post(nine + "sight 10;").toBegin(8), 2);
        Check.is("nine in a row, in 5", Check.post(nine + "sight 10;").toBegin(5), 16);
        Check.is("nine in a row, in 4", Check.post(nine + "sight 10;").toBegin(4), 1 | 32);
    }

    /** Nobody is WAITING, nobody RESTS, but nods, HATS, sleep and the TICK are as they are. */
    private static void allWouldBeHushed() {
        NodPost post = Check.post(CHAIN + "rest 9;");
        post.begin(0);
        post.begin(1);
        post.ticks(1);
        post.begin(2);
        Check.is("0 and 1 don't REST", post.reached(0, 3), 3);
        Check.is("2 isn't WAITING", post.reached(0, 1), 1);
        Check.is("in 4", post.reached(0, 4), 7);
        Check.is("through", post.through(0, 2), 2);
        Check.is("best", post.best(2), 1);
        Check.is("toBegin", post.toBegin(2), 2);
        Check.is("all is as it was", post.count(6), 4);
        Check.is("0 RESTS", post.farm(0, 5), 9);
        NodPost rule = Check.post("farm 0 0 0 1;farm 5 0 0 1;minds nods < 1 and tick < 3;");
        Check.is("no nods yet", rule.reaches(0, 1), 2);
        rule.ticks(3);
        Check.is("too late", rule.reaches(0, 1), -1);
        rule.undo();
        rule.begin(1);
        rule.ticks(1);
        Check.is("too many nods", rule.reaches(0, 1), -1);
    }

    // ---- As MIST lets one

    private static void ways() {
        NodPost post = Check.post("farm 0 0 0 1;farm 10 0 0 1;farm 20 0 0 1;farm 31 0 0 1;sight 10;");
        Check.is("to itself", post.way(3, 3), 0);
        Check.is("one step", post.way(0, 1), 1);
        Check.is("two", post.way(2, 0), 2);
        Check.is("none", post.way(0, 3), -1);
        Check.is("none back", post.way(3, 2), -1);
        for (int farm = 0; farm < 4; farm++) {
            post.sleep(farm, true);
        }
        Check.is("ASLEEP or not", post.way(0, 2), 2);
        Check.is("PARTS, ASLEEP or not", post.count(7), 2);
        Check.is("A WATCH, ASLEEP or not", post.count(8), 2 | 8);
        Check.is("A STARE, ASLEEP or not", post.count(9), 1);
        Check.is("A LINE, ASLEEP or not", post.line(), 3);
        Check.is("HIDDEN, ASLEEP or not", post.hidden(0), 4 | 8);
        NodPost nine = Check.post("farm 0 0 0 1;farm 10 0 0 1;farm 20 0 0 1;farm 30 0 0 1;farm 40 0 0 1;farm 50 0 0 1;"
            + "farm 60 0 0 1;farm 70 0 0 1;farm 80 0 0 1;sight 10;");
        Check.is("eight steps", nine.way(0, 8), 8);
        Check.is("eight steps back", nine.way(8, 0), 8);
        Check.is("A LINE of nine", nine.line(), 9);
        // The fewest steps, where there are ways of two and of three.
        NodPost hill = Check.post("farm 0 0 0 1;farm 10 0 0 1;farm 20 9 0 1;farm 30 0 0 1;farm 40 0 0 1;sight 20;");
        Check.is("two, over the hill", hill.way(0, 4), 2);
    }

    private static void partsAndWatches() {
        NodPost one = Check.post("farm 50 0 0 1;");
        Check.is("PARTS of one", one.count(7), 1);
        Check.is("A WATCH of one", one.count(8), 1);
        Check.is("A STARE of one", one.count(9), -1);
        Check.is("A LINE of one", one.line(), 1);
        Check.is("HIDDEN of one", one.hidden(0), 0);
        StringBuilder nine = new StringBuilder();
        for (int farm = 0; farm < 9; farm++) {
            nine.append("farm ").append(11 * farm).append(" 0 0 1;");
        }
        NodPost apart = Check.post(nine + "sight 10;");
        Check.is("PARTS, all apart", apart.count(7), 9);
        Check.is("A WATCH, all apart", apart.count(8), 511);
        Check.is("A STARE, all apart", apart.count(9), -1);
        Check.is("A LINE, all apart", apart.line(), 1);
        Check.is("HIDDEN, all apart", apart.hidden(4), 511 & ~16);
        NodPost row = Check.post(nine + "sight 11;");
        Check.is("PARTS, a row", row.count(7), 1);
        Check.is("A WATCH, a row", row.count(8), 2 | 16 | 128);
        NodPost mixed = Check.post("farm 0 0 0 1;farm 90 0 0 1;farm 10 0 0 1;farm 80 0 0 1;farm 50 0 0 1;sight 10;");
        Check.is("PARTS whose FARMS are told in turn", mixed.count(7), 3);
        Check.is("A WATCH of these", mixed.count(8), 1 | 2 | 16);
        // Two can watch each other: the least as bits; a single one that can comes ahead of two lesser ones.
        Check.is("either can", Check.post("farm 5 0 0 1;farm 6 0 0 1;").count(8), 1);
        Check.is("the third alone", Check.post("farm 10 0 0 1;farm 30 0 0 1;farm 20 0 0 1;").count(8), 4);
    }

    private static void stares() {
        NodPost post = Check.post("farm 40 0 0 1;farm 20 0 0 1;farm 0 0 0 1;farm 60 0 0 1;farm 81 0 0 1;sight 20;");
        Check.is("of like ones the first", post.count(9), 1);
        NodPost more = Check.post("farm 40 0 0 1;farm 20 0 0 1;farm 0 0 0 1;farm 60 0 0 1;farm 81 0 0 1;sight 21;");
        Check.is("the farthest", more.count(9), 34);
        NodPost last = Check.post("farm 0 0 0 1;farm 2 0 0 1;farm 4 0 0 1;farm 6 0 0 1;farm 8 0 0 1;farm 10 0 0 1;"
            + "farm 12 0 0 1;farm 14 0 0 1;farm 17 0 0 1;");
        Check.is("10 by the lesser", last.count(9), 78);
        NodPost one = Check.post("farm 0 0 0 1;farm 99 0 0 1;farm 98 0 0 1;sight 1;");
        Check.is("1 apart", one.count(9), 12);
        NodPost far = Check.post("farm 99 0 0 1;farm 0 0 0 1;sight 99;");
        Check.is("99 apart", far.count(9), 1);
    }

    private static void hats() {
        for (int height = 0; height <= 20; height++) {
            // 0 needs more than twice the one's HEIGHT over the middle.
            NodPost post = Check.post("farm 0 0 20 1;farm 10 " + height + " 0 1;farm 20 0 0 1;");
            int due = 2 * height + 1 <= 20 ? 2 * height + 1 : -1;
            Check.is("over " + height, post.toHat(0, 2), due);
            Check.is("the HAT stays", post.farm(0, 2), 20);
            Check.is("no ACT", post.count(10), 0);
        }
        NodPost even = Check.post("farm 0 0 0 1;farm 10 10 0 1;farm 20 1 0 1;");
        Check.is("20 does", even.toHat(0, 2), 20);
        NodPost none = Check.post("farm 0 0 0 1;farm 10 10 0 1;farm 20 0 0 1;");
        Check.is("21 would", none.toHat(0, 2), -1);
        Check.is("both are one", none.toHat(1, 1), -1);
        Check.is("0 does", none.toHat(0, 1), 0);
        none.hat(2, 1);
        Check.is("the other one's HAT counts", none.toHat(0, 2), 20);
        none.hat(1, 1);
        Check.is("the middle one's HAT counts", none.toHat(0, 2), -1);
        Check.is("as far as SIGHT", Check.post("farm 0 0 5 1;farm 60 0 0 1;").toHat(0, 1), 0);
        Check.is("farther than SIGHT", Check.post("farm 0 0 5 1;farm 61 0 0 1;").toHat(0, 1), -1);
        NodPost misty = Check.post("farm 0 0 5 1;farm 52 0 0 1;mist 0 1;");
        Check.is("without mist", misty.toHat(0, 1), 0);
        misty.ticks(1);
        Check.is("by mist", misty.toHat(0, 1), -1);
    }

    private static void inTheWay() {
        NodPost post = Check.post("farm 0 10 0 1;farm 99 10 0 1;farm 50 10 0 1;farm 51 9 0 1;farm 98 99 20 1;"
            + "farm 1 0 11 1;sight 1;mist 9;");
        Check.is("on the line, far above, by a HAT; not below; SIGHT apart", post.between(0, 1), 4 | 16 | 32);
        Check.is("back", post.between(1, 0), 4 | 16 | 32);
        Check.is("both are one", post.between(4, 4), 0);
        Check.is("side by side", post.between(2, 3), 0);
        post.hat(5, 9);
        Check.is("below by its HAT", post.between(0, 1), 4 | 16);
        post.hat(5, 10);
        Check.is("on it by its HAT", post.between(0, 1), 4 | 16 | 32);
        Check.is("ASLEEP or not", post.sleep(2, true), true);
        Check.is("ASLEEP or not", post.between(0, 1), 4 | 16 | 32);
    }

    private static void lines() {
        String row = "farm 30 0 0 1;farm 0 0 0 1;farm 20 0 0 1;farm 10 0 0 1;";
        Check.is("a row, as far as SIGHT", Check.post(row + "sight 10;").line(), 4);
        Check.is("a row, one farther", Check.post(row + "sight 9;").line(), 1);
        // 0 and 2 are in sight of each other, but 1 between them is left out, if it is too far from 3.
        Check.is("none left out", Check.post("farm 0 9 0 1;farm 5 0 0 1;farm 10 9 0 1;farm 21 0 0 1;farm 26 0 0 1;"
            + "sight 10;").line(), 3);
        Check.is("the last two", Check.post("farm 0 0 0 1;farm 50 0 0 1;farm 99 0 0 1;farm 98 0 0 1;sight 1;").line(), 2);
        Check.is("the first two", Check.post("farm 0 0 0 1;farm 1 0 0 1;farm 99 0 0 1;farm 50 0 0 1;sight 1;").line(), 2);
    }

    /** All of these are by the MIST of the TICK that comes, not by that of the one gone by. */
    private static void mistOfTheTickThatComes() {
        NodPost post = Check.post("farm 0 0 0 1;farm 10 0 0 1;farm 19 0 0 1;sight 19;mist 0 1 2;");
        int[] sees = {2, 2, 0};
        int[] way = {2, 2, -1};
        int[] parts = {1, 1, 3};
        int[] watch = {2, 2, 7};
        int[] stare = {1, 1, -1};
        int[] line = {3, 3, 1};
        for (int tick = 0; tick < 7; tick++) {
            int mist = tick % 3;
            Check.is("MIST", post.count(2), mist);
            Check.is("SEES", post.farm(0, 9), sees[mist]);
            Check.is("HIDDEN", post.hidden(0), 6 & ~sees[mist]);
            Check.is("A WAY", post.way(0, 2), way[mist]);
            Check.is("PARTS", post.count(7), parts[mist]);
            Check.is("A WATCH", post.count(8), watch[mist]);
            Check.is("A STARE", post.count(9), stare[mist]);
            Check.is("A LINE", post.line(), line[mist]);
            Check.is("TO HAT", post.toHat(0, 1), mist == 2 ? -1 : 0);
            Check.is("IN THE WAY, SIGHT apart", post.between(0, 2), 2);
            Check.is("REACHES", post.reaches(0, 1), mist == 2 ? -1 : 2);
            post.ticks(1);
        }
    }
}
