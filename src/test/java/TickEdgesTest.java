/** Terms, part 2, and promises 5 to 12, 37, 38: on both sides of each boundary of sight, TICKS, ACTS, the image. */
public final class TickEdgesTest {
    /** 0 and 1, 1 and 2 are in sight of each other; 1 is slow. */
    private static final String CHAIN = "farm 0 0 0 1;farm 10 0 0 2;farm 20 0 0 1;sight 10;";

    private TickEdgesTest() {
    }

    public static void main(String[] args) {
        withoutFarms();
        asFarAsMistLets();
        belowTheLine();
        sleepersAreSeen();
        howSlow();
        howLongOneRests();
        whoIsFree();
        whatIsSoWhenAllHaveNodded();
        whatTheRuleSees();
        whatMoreThanZeroIs();
        intsThatWrap();
        cutDownToZero();
        oneOrZero();
        nodsAtMost();
        ticksThatAreTaken();
        theLastTick();
        beginsWhateverItWas();
        fallsAsleepAndWakes();
        hatsThatAreTaken();
        hushed();
        actsThatAreKept();
        actsInTheImage();
        imagesInPlaceOfAnother();
        Check.end("TickEdgesTest");
    }

    private static void row(String when, NodPost post, int what, int... due) {
        for (int farm = 0; farm < due.length; farm++) {
            Check.is(when + ": farm(" + farm + ", " + what + ")", post.farm(farm, what), due[farm]);
        }
    }

    private static void withoutFarms() {
        for (NodPost post : new NodPost[] {new NodPost(), Check.post(""), Check.post("rest 3;sight 60;mist 0;minds 0;")}) {
            Check.is("hush", post.hush(), -1);
            Check.is("ticks(0)", post.ticks(0), -1);
            Check.is("STATUS 1", post.count(14), 2);
            Check.is("ticks", post.ticks(1), 1);
            Check.is("ticks", post.ticks(20), 21);
            int[] due = {0, 21, 0, 60, 3, 0, 0, 0, 0, -1, 2, 0, 0, 0, 2, 0};
            for (int what = 0; what < due.length; what++) {
                Check.is("without FARMS, count " + what, post.count(what), due[what]);
            }
            Check.noSuch("begin", () -> post.begin(0));
            Check.noSuch("sleep", () -> post.sleep(0, true));
            Check.noSuch("hat", () -> post.hat(0, 0));
            Check.noSuch("see", () -> post.see(0, 1, true));
            Check.noSuch("farm", () -> post.farm(0, 0));
            Check.is("undo", post.undo(), 1);
            Check.is("undo", post.undo(), 0);
            Check.is("undo", post.undo(), -1);
            Check.is("the TICK", post.count(1), 0);
        }
    }

    // ---- Sight

    /** "no more than SIGHT less 9 times MIST away": so far, and one farther. */
    private static void asFarAsMistLets() {
        for (int sight : new int[] {99, 90, 82, 81, 60, 28, 10, 9, 1}) {
            for (int mist = 0; mist <= 9; mist++) {
                int far = sight - 9 * mist;
                for (int x = Math.max(1, far - 1); x <= Math.min(99, Math.max(1, far + 1)); x++) {
                    NodPost post = Check.post("farm " + x + " 0 0 1;farm 0 0 0 1;sight " + sight + ";mist " + mist + ";");
                    boolean sees = x <= far;
                    String what = x + " away, sight " + sight + ", mist " + mist;
                    row(what, post, 9, sees ? 2 : 0, sees ? 1 : 0);
                    Check.is(what + ", hidden", post.hidden(0), sees ? 0 : 2);
                    Check.is(what + ", a nod", post.reaches(0, 1), sees ? 2 : -1);
                }
            }
        }
    }

    /** A TOP is HEIGHT and HAT; one on the line is in the way, one below it isn't; those not between never are. */
    private static void belowTheLine() {
        for (int hat = 0; hat <= 20; hat++) {
            // The line from 99 and 20 to 99 and a hat, in its middle.
            NodPost post = Check.post("farm 0 99 20 1;farm 49 99 10 1;farm 98 99 " + hat + " 1;sight 99;");
            boolean sees = 2 * 109 < 119 + 99 + hat;
            Check.is("over 109, hat " + hat, post.farm(0, 9), sees ? 6 : 2);
            Check.is("in the way, hat " + hat, post.between(2, 0), sees ? 0 : 2);
        }
        NodPost beside = Check.post("farm 40 0 0 1;farm 41 0 0 1;farm 39 99 20 1;farm 42 99 20 1;");
        Check.is("those beside aren't in the way", beside.between(0, 1), 0);
        Check.is("side by side", beside.farm(0, 9), 2 | 4 | 8);
        NodPost flat = Check.post("farm 0 0 0 1;farm 1 0 0 1;farm 2 0 0 1;");
        row("all at 0: the one between is on the line", flat, 9, 2, 5, 2);
        flat.hat(0, 1);
        row("just above the line", flat, 9, 6, 5, 3);
        flat.hat(1, 1);
        row("above it again", flat, 9, 2, 5, 2);
    }

    private static void sleepersAreSeen() {
        NodPost post = Check.post(CHAIN);
        post.sleep(1, true);
        row("ASLEEP is seen, and would see", post, 9, 2, 5, 2);
        post.begin(0);
        Check.is("sees nothing", post.then(1, 1, 0), 0);
        post.sleep(1, false);
        Check.is("awake it sees", post.then(1, 1, 0), 2);
    }

    // ---- A TICK

    private static void howSlow() {
        for (int slow = 1; slow <= 5; slow++) {
            NodPost post = Check.post("farm 0 0 0 1;farm 1 0 0 " + slow + ";rest 9;");
            post.begin(0);
            post.ticks(1);
            for (int left = slow; left >= 1; left--) {
                row("slow " + slow, post, 4, 0, left);
                row("slow " + slow, post, 6, 1, 0);
                post.ticks(1);
            }
            row("slow " + slow + ", nodded", post, 4, 0, 0);
            row("slow " + slow + ", nodded", post, 6, 1, 1);
        }
    }

    /** Behind its nod one RESTS as told; one TICK less with each one that comes, down to 0. */
    private static void howLongOneRests() {
        for (int rest = 0; rest <= 9; rest++) {
            NodPost post = Check.post("farm 0 0 0 1;rest " + rest + ";");
            post.begin(0);
            Check.is("not yet", post.farm(0, 5), 0);
            for (int left = rest; left >= -1; left--) {
                post.ticks(1);
                Check.is("rest " + rest, post.farm(0, 5), Math.max(0, left));
            }
        }
    }

    /** 1 nods so many TICKS behind 0: 0 minds it if it doesn't REST any more in that TICK. */
    private static void whoIsFree() {
        for (int rest = 0; rest <= 6; rest++) {
            for (int slow = 1; slow <= 5; slow++) {
                NodPost post = Check.post("farm 0 0 0 4;farm 1 0 0 " + slow + ";rest " + rest + ";");
                post.begin(0);
                post.ticks(1 + slow);
                row("rest " + rest + ", slow " + slow, post, 4, rest <= slow ? 4 : 0, 0);
                row("rest " + rest + ", slow " + slow, post, 5, Math.max(0, rest - slow), rest);
            }
        }
        // Who is WAITING and RESTS, as it has begun, doesn't REST less by it.
        NodPost both = Check.post("farm 0 0 0 5;farm 1 0 0 1;farm 2 0 0 1;sight 1;rest 9;");
        both.begin(0);
        both.ticks(1);
        both.begin(0);
        row("WAITING and RESTING", both, 5, 9, 0, 0);
        both.ticks(1);
        row("nodded again", both, 5, 9, 9, 0);
        row("nodded again", both, 6, 2, 1, 0);
        // WAITING goes on, whoever nods.
        NodPost slow = Check.post("farm 0 0 0 1;farm 1 0 0 5;farm 2 0 0 1;sight 1;rest 0;");
        slow.begin(0);
        slow.ticks(1);
        for (int left = 4; left >= 1; left--) {
            slow.begin(2);
            slow.ticks(1);
            row("WAITING goes on", slow, 4, 0, left, 0);
        }
        // A farm that RESTS doesn't mind; nor does it later what it saw then.
        NodPost late = Check.post("farm 0 0 0 1;farm 1 0 0 1;rest 2;");
        late.begin(0);
        late.ticks(1);
        late.begin(1);
        late.ticks(1);
        row("0 RESTS one TICK more", late, 5, 1, 2);
        late.ticks(5);
        row("it minds nothing", late, 6, 1, 1);
    }

    /** Two that nod at once don't mind each other; the third one sees both; MINDS has the nods of this TICK, too. */
    private static void whatIsSoWhenAllHaveNodded() {
        NodPost post = Check.post("farm 0 0 0 1;farm 10 0 0 1;farm 20 0 0 1;sight 10;rest 0;minds seen = 2;");
        post.begin(0);
        post.begin(2);
        post.ticks(1);
        row("1 sees two", post, 4, 0, 1, 0);
        post.ticks(1);
        row("they see one", post, 4, 0, 0, 0);
        NodPost pair = Check.post("farm 0 0 0 1;farm 1 0 0 1;rest 0;");
        pair.begin(0);
        pair.begin(1);
        pair.ticks(1);
        row("both have nodded", pair, 6, 1, 1);
        row("neither minds it", pair, 4, 0, 0);
        // 0 minds 1's nod in the third TICK, its own first one counted.
        NodPost nods = Check.post("farm 0 0 0 1;shepherd 1 0 0 2;rest 2;minds nods = 1;");
        nods.begin(0);
        Check.is("nods once", nods.then(0, 3, 0), 1);
        NodPost none = Check.post("farm 0 0 0 1;shepherd 1 0 0 2;rest 2;minds nods = 0;");
        none.begin(0);
        Check.is("not none any more", none.then(0, 3, 0), 0);
    }

    // ---- The rule

    /** Farm 1 sees farm 0 nod in the first TICK: whether it minds. */
    private static void minded(String rule, boolean due) {
        NodPost post = Check.post("farm 10 20 9 1;farm 25 50 4 1;mist 2;rest 5;minds " + rule + ";");
        Check.is("minds " + rule, post.reaches(0, 1), due ? 2 : -1);
    }

    /** What an expression comes to, told by numbers of at most 4 digits, and that it isn't one more. */
    private static void gives(String rule, int value) {
        minded("(" + rule + ") = " + written(value), true);
        minded("(" + rule + ") = " + written(value + 1), false);
    }

    private static String written(int value) {
        return "(" + (value >>> 24) + "*4096+" + (value >>> 12 & 4095) + ")*4096+" + (value & 4095);
    }

    private static void whatTheRuleSees() {
        gives("seen", 1);
        gives("far", 15);
        gives("up", -30);
        gives("nods", 0);
        gives("mist", 2);
        gives("tick", 0);
        // 2 sees 0 and 1, as far off on both sides: the least counts; by HEIGHT, whatever HAT.
        String like = "farm 40 30 0 1;farm 60 20 5 1;farm 50 10 20 1;";
        for (int up : new int[] {19, 20, 21, 10}) {
            NodPost post = Check.post(like + "minds seen = 2 and far = 10 and up = " + up + ";");
            post.begin(0);
            post.begin(1);
            Check.is("like ones, up " + up, post.then(2, 1, 0), up == 20 ? 1 : 0);
        }
        // One nearer, with a greater number; then the farther one alone; one that doesn't nod never counts.
        String near = "farm 39 30 0 1;farm 60 20 5 1;farm 50 10 20 1;minds far = ";
        for (int far = 9; far <= 12; far++) {
            NodPost post = Check.post(near + far + ";");
            post.begin(0);
            Check.is("the farther one, far " + far, post.then(2, 1, 0), far == 11 ? 1 : 0);
            post.begin(1);
            Check.is("the nearer one, far " + far, post.then(2, 1, 0), far == 10 ? 1 : 0);
        }
        NodPost same = Check.post("farm 0 50 20 1;farm 5 50 0 1;minds up = 0;");
        Check.is("as high", same.reaches(0, 1), 2);
        NodPost eight = Check.post("farm 0 99 0 1;farm 10 49 0 1;farm 20 25 0 1;farm 30 9 0 1;farm 40 0 0 1;"
            + "farm 50 9 0 1;farm 60 25 0 1;farm 70 49 0 1;farm 80 99 0 1;minds seen = 8;");
        for (int farm = 0; farm < 9; farm++) {
            if (farm != 4) {
                Check.is("nobody sees 8 yet", eight.crowd(60, 0), farm > 4 ? farm - 1 : farm);
                eight.begin(farm);
            }
        }
        Check.is("4 sees 8", eight.then(4, 1, 0), 1);
    }

    private static void whatMoreThanZeroIs() {
        minded("1", true);
        minded("2", true);
        minded("0", false);
        minded("0-1", false);
        minded("1-1", false);
        minded(written(Integer.MAX_VALUE), true);
        minded(written(Integer.MIN_VALUE), false);
    }

    private static void intsThatWrap() {
        String most = "(" + written(Integer.MAX_VALUE) + ")";
        String least = "(" + written(Integer.MIN_VALUE) + ")";
        gives(most, Integer.MAX_VALUE);
        gives(most + "+1", Integer.MIN_VALUE);
        gives(least + "-1", Integer.MAX_VALUE);
        gives("0-" + least, Integer.MIN_VALUE);
        gives(most + "*2", -2);
        gives(most + "*" + most, 1);
        gives(least + "*" + least, 0);
        gives("9999*9999*9999", 9999 * 9999 * 9999);
        gives(least + "/(0-1)", Integer.MIN_VALUE);
        gives(most + "/(0-1)", -Integer.MAX_VALUE);
        // The tests are of what they are, not of what is between them.
        gives(least + "<" + most, 1);
        gives(most + "<" + least, 0);
        gives(least + "=" + most, 0);
        gives(least + "=0-" + least, 1);
    }

    private static void cutDownToZero() {
        gives("7/2", 3);
        gives("(0-7)/2", -3);
        gives("7/(0-2)", -3);
        gives("(0-7)/(0-2)", 3);
        gives("1/2", 0);
        gives("(0-1)/2", 0);
        gives("5/0", 0);
        gives("0/0", 0);
        gives("(0-5)/0", 0);
        gives("5/(3-3)+7", 7);
        gives("5/0/0", 0);
        gives("5/nods", 0);
        gives("8/1", 8);
        // From the left.
        gives("100/7*7", 98);
        gives("100*7/7", 100);
        gives("100/10/5", 2);
        gives("10-3-2", 5);
        gives("10-3+2", 9);
        gives("2+3*4-6/2", 11);
    }

    private static void oneOrZero() {
        String[] twoes = {"0", "1", "7", "(0-1)"};
        for (int i = 0; i < twoes.length; i++) {
            gives("not " + twoes[i], i == 0 ? 1 : 0);
            for (int j = 0; j < twoes.length; j++) {
                gives(twoes[i] + " and " + twoes[j], i > 0 && j > 0 ? 1 : 0);
                gives(twoes[i] + " or " + twoes[j], i > 0 || j > 0 ? 1 : 0);
                gives(twoes[i] + "=" + twoes[j], i == j ? 1 : 0);
            }
        }
        gives("2<3", 1);
        gives("3<3", 0);
        gives("4<3", 0);
        gives("(0-4)<0-3", 1);
        gives("not 2<3", 0);
        gives("not 0=1", 1);
        gives("0 or 0 or 5", 1);
        gives("5 and 5 and 0", 0);
        gives("1 or 1 and 0", 1);
        gives("1 and 0 or 1", 1);
        gives("0 and 0 or 0", 0);
        gives("not 1 or 1", 1);
    }

    // ---- ACTS

    /**
     * In 512 calls nobody comes to 999 nods, so this goes on longer: one nod in each TICK up to the last one, and one
     * more ahead.
     */
    private static void nodsAtMost() {
        NodPost post = Check.post("farm 0 0 0 1;rest 0;");
        for (int tick = 1; tick <= 999; tick++) {
            post.begin(0);
            post.ticks(1);
            if (tick >= 998) {
                Check.is("nods", post.farm(0, 6), tick);
            }
        }
        Check.is("none to come", post.then(0, 1, 1), 999);
        post.begin(0);
        Check.is("one more to come", post.nodding(1), 1);
        Check.is("999 at most", post.then(0, 1, 1), 999);
        Check.is("who nods at 999, nods", post.oftenest(1), 0);
        post.undo();
        post.undo();
        Check.is("998 again", post.farm(0, 6), 998);
        Check.is("and 999 then", post.then(0, 1, 1), 999);
    }

    private static void ticksThatAreTaken() {
        for (int many = 1; many <= 20; many++) {
            NodPost post = Check.post(CHAIN);
            Check.is("ticks(" + many + ")", post.ticks(many), many);
            Check.is("the TICK", post.count(1), many);
            Check.is("one ACT", post.count(10), 1);
            Check.is("none refused", post.count(14), 0);
        }
        NodPost post = Check.post(CHAIN);
        int refused = 0;
        for (int many : new int[] {0, -1, 21, 22, 980, 999, Integer.MIN_VALUE, Integer.MAX_VALUE}) {
            Check.is("ticks(" + many + ")", post.ticks(many), -1);
            refused++;
            Check.is("STATUS 1", post.count(14), refused);
            Check.is("no ACT", post.count(10), 0);
            Check.is("no TICK", post.count(1), 0);
        }
        Check.is("other STATUS", post.count(13) + post.count(15), 0);
    }

    private static void theLastTick() {
        NodPost post = Check.post("farm 0 0 0 1;farm 1 0 0 1;mist 0 0 0 0 0 0 0 5;minds tick < 1000;");
        for (int i = 1; i <= 49; i++) {
            post.ticks(20);
        }
        Check.is("980", post.count(1), 980);
        Check.is("1000", post.ticks(20), -1);
        Check.is("998", post.ticks(18), 998);
        Check.is("1000", post.ticks(2), -1);
        Check.is("999", post.ticks(1), 999);
        for (int many = 0; many <= 21; many++) {
            Check.is("above 999", post.ticks(many), -1);
        }
        Check.is("STATUS 1", post.count(14), 24);
        Check.is("ACTS", post.count(10), 40);
        Check.is("the MIST of 999", post.count(2), 5);
        // Looking ahead goes on beyond it, with all that the rule sees.
        Check.is("999 is below 1000", post.reaches(0, 1), 2);
        post.begin(0);
        Check.is("1 nods in the TICK 1000", post.nodding(2), 2);
        Check.is("and nobody minds that", post.then(0, 6, 1) + post.then(1, 6, 1), 2);
        Check.is("undo", post.undo(), 39);
        Check.is("undo", post.undo(), 38);
        Check.is("998 again", post.count(1), 998);
        Check.is("999 again", post.ticks(1), 999);
    }

    private static void beginsWhateverItWas() {
        NodPost post = Check.post(CHAIN + "rest 9;");
        Check.is("neither", post.begin(0), true);
        Check.is("WAITING one already", post.begin(0), true);
        Check.is("two ACTS", post.count(10), 2);
        row("WAITING", post, 4, 1, 0, 0);
        post.ticks(1);
        row("1 is WAITING", post, 4, 0, 2, 0);
        Check.is("WAITING more", post.begin(1), true);
        Check.is("RESTING", post.begin(0), true);
        row("both one TICK", post, 4, 1, 1, 0);
        row("RESTS as it did", post, 5, 9, 0, 0);
        post.sleep(2, true);
        Check.is("ASLEEP", post.begin(2), false);
        Check.is("STATUS 1", post.count(14), 1);
        Check.is("no ACT", post.count(10), 6);
        row("not WAITING", post, 4, 1, 1, 0);
        post.sleep(2, false);
        Check.is("awake again", post.begin(2), true);
        Check.noSuch("no such FARM", () -> post.begin(3));
        Check.noSuch("no such FARM", () -> post.begin(-1));
        Check.is("not in STATUS", post.count(14), 1);
    }

    private static void fallsAsleepAndWakes() {
        NodPost post = Check.post(CHAIN + "rest 9;");
        Check.is("awake already", post.sleep(0, false), false);
        Check.is("STATUS 1", post.count(14), 1);
        Check.is("no ACT", post.count(10), 0);
        post.begin(0);
        post.ticks(1);
        post.begin(0);
        Check.is("falls ASLEEP", post.sleep(0, true), true);
        Check.is("ASLEEP", post.count(5), 1);
        row("WAITING no more, the others are", post, 4, 0, 2, 0);
        row("RESTS on", post, 5, 9, 0, 0);
        Check.is("ASLEEP already", post.sleep(0, true), false);
        Check.is("STATUS 1", post.count(14), 2);
        Check.is("wakes", post.sleep(0, false), true);
        row("WAITING no more", post, 4, 0, 2, 0);
        Check.is("ACTS", post.count(10), 5);
        for (int farm = 0; farm < 3; farm++) {
            post.sleep(farm, true);
        }
        Check.is("all", post.count(5), 7);
        Check.is("nobody is WAITING", post.count(6), 0);
        Check.noSuch("no such FARM", () -> post.sleep(3, true));
        Check.noSuch("no such FARM", () -> post.sleep(-1, false));
    }

    private static void hatsThatAreTaken() {
        NodPost post = Check.post("farm 0 0 7 1;");
        int was = 7;
        for (int hat = 0; hat <= 20; hat++) {
            Check.is("as it was", post.hat(0, hat), was);
            Check.is("as it is", post.farm(0, 2), hat);
            was = hat;
        }
        Check.is("the same one is an ACT, too", post.hat(0, 20), 20);
        Check.is("ACTS", post.count(10), 22);
        int refused = 0;
        for (int hat : new int[] {-1, 21, Integer.MIN_VALUE, Integer.MAX_VALUE}) {
            Check.is("hat", post.hat(0, hat), -1);
            refused++;
            Check.is("STATUS 1", post.count(14), refused);
            Check.is("as it was", post.farm(0, 2), 20);
        }
        Check.noSuch("no such FARM, nor HAT", () -> post.hat(1, 21));
        Check.noSuch("no such FARM", () -> post.hat(-1, 0));
        Check.is("STATUS 1 stays", post.count(14), 4);
        Check.is("ACTS stay", post.count(10), 22);
    }

    private static void hushed() {
        NodPost post = Check.post(CHAIN);
        Check.is("nobody was", post.hush(), -1);
        Check.is("STATUS 1", post.count(14), 1);
        Check.is("no ACT", post.count(10), 0);
        post.begin(2);
        Check.is("one was", post.hush(), 4);
        Check.is("nobody is", post.count(6), 0);
        Check.is("nobody was", post.hush(), -1);
        for (int farm = 0; farm < 3; farm++) {
            post.begin(farm);
        }
        Check.is("all were", post.hush(), 7);
        Check.is("undone", post.undo(), 5);
        Check.is("all are", post.count(6), 7);
        post.ticks(1);
        Check.is("all have nodded", post.hush(), -1);
        row("and REST on", post, 5, 3, 3, 3);
        Check.is("STATUS 1", post.count(14), 3);
    }

    /** 39, 40 and 41 ACTS, and far more: the latest 40 are kept, and UNDONE the last one first. */
    private static void actsThatAreKept() {
        for (int many : new int[] {1, 39, 40, 41, 79, 80, 81, 130}) {
            NodPost post = Check.post("farm 0 0 0 1;farm 1 0 0 1;");
            for (int i = 1; i <= many; i++) {
                post.hat(i % 2, i % 21);
                Check.is("kept", post.count(10), Math.min(i, 40));
            }
            int kept = Math.min(many, 40);
            for (int i = many; i > many - kept; i--) {
                Check.is("left", post.undo(), kept - 1 - (many - i));
                Check.is("HAT of the one", post.farm(i % 2, 2), i < 3 ? 0 : (i - 2) % 21);
                Check.is("HAT of the other one", post.farm(1 - i % 2, 2), i < 2 ? 0 : (i - 1) % 21);
            }
            Check.is("none is left", post.undo(), -1);
            Check.is("that isn't in STATUS", post.count(13) + post.count(14) + post.count(15), 0);
            Check.is("none is kept", post.count(10), 0);
        }
        // Of 40, undone and done again, none is lost.
        NodPost post = Check.post("farm 0 0 0 1;");
        for (int i = 0; i < 40; i++) {
            post.ticks(1);
        }
        for (int i = 0; i < 5; i++) {
            Check.is("left", post.undo(), 39);
            Check.is("kept again", post.hat(0, i), 0);
            Check.is("kept", post.count(10), 40);
        }
        for (int left = 39; left >= 0; left--) {
            Check.is("left", post.undo(), left);
            Check.is("the TICK", post.count(1), left);
        }
        Check.is("none", post.undo(), -1);
        // A call that is refused, or only asks, is none.
        post.ticks(0);
        post.see(0, 1, true);
        post.forget();
        post.image();
        post.restore();
        post.years(1, 60, 0);
        Check.is("still none", post.undo(), -1);
    }

    private static void actsInTheImage() {
        NodPost post = Check.post("farm 0 0 0 1;");
        for (int i = 0; i < 45; i++) {
            post.ticks(1);
        }
        post.image();
        for (int i = 0; i < 45; i++) {
            post.hat(0, 20 - i % 2);
        }
        Check.is("restore", post.restore(), true);
        Check.is("ACTS", post.count(10), 40);
        for (int left = 39; left >= 0; left--) {
            Check.is("left", post.undo(), left);
            Check.is("the TICK", post.count(1), 5 + left);
            Check.is("the HAT", post.farm(0, 2), 0);
        }
        Check.is("none", post.undo(), -1);
        Check.is("restore again", post.restore(), true);
        Check.is("ACTS", post.count(10), 40);
        Check.is("the TICK", post.count(1), 45);
    }

    private static void imagesInPlaceOfAnother() {
        NodPost post = new NodPost();
        Check.is("none", post.restore(), false);
        post.image();
        post.ticks(3);
        Check.is("one without FARMS", post.restore(), true);
        Check.is("the TICK", post.count(1), 0);
        post.ticks(4);
        post.image();
        post.ticks(5);
        Check.is("the later one", post.restore(), true);
        Check.is("the TICK", post.count(1), 4);
        Check.is("a TEXT with a FAULT", uplandOf(post, "?"), 1);
        Check.is("STATUS 0", post.count(13), 1);
        Check.is("the image is there still", post.restore(), true);
        Check.is("STATUS as it was", post.count(13), 0);
        Check.is("the place isn't of it", post.fault(), 0);
        post.feed(0, 0, 0, 0, 0);
        Check.is("restore", post.restore(), true);
        Check.is("the tape isn't of it", post.count(12), 20);
        Check.illegal("nothing changes", () -> post.upland(21));
        Check.is("the image is there still", post.restore(), true);
        Check.is("a TEXT without", uplandOf(post, "farm 1 2 3 4;"), 1);
        Check.is("the bytes of before stood ahead", post.fault(), 0);
        Check.is("a TEXT without", uplandOf(post, "farm 1 2 3 4;"), 0);
        Check.is("the image is gone", post.restore(), false);
    }

    private static int uplandOf(NodPost post, String text) {
        Check.feed(post, text);
        return post.upland(text.length());
    }
}
