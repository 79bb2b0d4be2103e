import java.util.ArrayList;
import java.util.List;
import java.util.function.Function;

/**
 * All promises: which of two exceptions comes first, for all couples of wrong and fine arguments; that what only asks,
 * is refused or throws changes nothing, but STATUS where it is said.
 */
public final class RefusedTest {
    private static final int[] WHATS = {Integer.MIN_VALUE, -1, 0, 1, 2, 3, 9, 10, 15, 16, Integer.MAX_VALUE};
    private static final int[] FARMS = {Integer.MIN_VALUE, -1, 0, 1, 2, 3, 8, 9, 10, 31, 32, Integer.MAX_VALUE};
    private static final int[] TICKS = {Integer.MIN_VALUE, -1, 0, 1, 5, 6, 20, 21, 60, 61, Integer.MAX_VALUE};
    private static final String CHAIN = "farm 0 0 0 1;farm 10 0 0 2;farm 20 0 0 1;sight 10;mist 0 1;minds seen;";
    private static final String NINE = "farm 0 9 0 1;farm 10 0 0 2;farm 20 0 0 1;farm 30 0 0 1;shepherd 40 3 9 5;"
        + "farm 50 0 0 1;farm 60 0 0 1;farm 70 0 0 1;farm 80 0 0 1;sight 30;rest 1;mist 0 0 1;";

    private RefusedTest() {
    }

    public static void main(String[] args) {
        for (String land : List.of("", "farm 5 0 0 1;", CHAIN, NINE)) {
            NodPost post = Check.post(land);
            oneArgument(post);
            farmAndWhat(post);
            farmAndTicks(post);
            twoFarms(post);
            whatAndTicks(post);
            threeArguments(post);
            refusedBeginnings(post);
        }
        NodPost lived = lived(NINE);
        changesNothing(lived, asking());
        changesNothing(lived, throwing());
        refusals();
        fullAndEmpty();
        actsOfTwins();
        Check.end("RefusedTest");
    }

    // ---- Which exception

    private static void due(String call, boolean isFound, boolean isFine, Object answer) {
        String due = !isFound ? Check.NO_SUCH : !isFine ? Check.ILLEGAL : "an answer";
        boolean threw = answer.equals(Check.NO_SUCH) || answer.equals(Check.ILLEGAL);
        Check.is(call, threw ? answer : "an answer", due);
    }

    private static boolean has(NodPost post, int farm) {
        return farm >= 0 && farm < post.count(0);
    }

    private static boolean within(int number, int least, int most) {
        return number >= least && number <= most;
    }

    private static void oneArgument(NodPost post) {
        for (int what : WHATS) {
            due("count(" + what + ")", within(what, 0, 15), true, Check.answer(() -> post.count(what)));
            due("begun(" + what + ")", within(what, 0, 2), true, Check.answer(() -> post.begun(what)));
            due("look(" + what + ")", within(what, 0, 1), true, Check.answer(() -> post.look(what)));
        }
        for (int farm : FARMS) {
            due("first(" + farm + ")", has(post, farm), true, Check.answer(() -> post.first(farm)));
            due("hidden(" + farm + ")", has(post, farm), true, Check.answer(() -> post.hidden(farm)));
        }
        for (int ticks : TICKS) {
            boolean fine = within(ticks, 1, 60);
            due("nodding(" + ticks + ")", true, fine, Check.answer(() -> post.nodding(ticks)));
            due("loudest(" + ticks + ")", true, fine, Check.answer(() -> post.loudest(ticks)));
            due("oftenest(" + ticks + ")", true, fine, Check.answer(() -> post.oftenest(ticks)));
            due("best(" + ticks + ")", true, fine, Check.answer(() -> post.best(ticks)));
            due("toBegin(" + ticks + ")", true, fine, Check.answer(() -> post.toBegin(ticks)));
        }
    }

    private static void farmAndWhat(NodPost post) {
        for (int farm : FARMS) {
            for (int what : WHATS) {
                due("farm(" + farm + ", " + what + ")", has(post, farm) && within(what, 0, 9), true,
                    Check.answer(() -> post.farm(farm, what)));
            }
        }
    }

    private static void farmAndTicks(NodPost post) {
        for (int farm : FARMS) {
            for (int ticks : TICKS) {
                String both = "(" + farm + ", " + ticks + ")";
                due("reached" + both, has(post, farm), within(ticks, 0, 60),
                    Check.answer(() -> post.reached(farm, ticks)));
                post.forget();
                due("see" + both, has(post, farm), true, Check.answer(() -> post.see(farm, ticks, false)));
                due("hat" + both, has(post, farm), true, Check.answer(() -> post.hat(farm, ticks)));
            }
        }
        post.forget();
    }

    private static void twoFarms(NodPost post) {
        for (int farm : FARMS) {
            for (int other : FARMS) {
                boolean isFound = has(post, farm) && has(post, other);
                String both = "(" + farm + ", " + other + ")";
                due("reaches" + both, isFound, true, Check.answer(() -> post.reaches(farm, other)));
                due("through" + both, isFound, true, Check.answer(() -> post.through(farm, other)));
                due("way" + both, isFound, true, Check.answer(() -> post.way(farm, other)));
                due("toHat" + both, isFound, true, Check.answer(() -> post.toHat(farm, other)));
                due("between" + both, isFound, true, Check.answer(() -> post.between(farm, other)));
                for (int what : WHATS) {
                    due("game" + both + ", " + what, isFound && within(what, 0, 1), farm != other,
                        Check.answer(() -> post.game(farm, other, what)));
                }
            }
        }
    }

    private static void whatAndTicks(NodPost post) {
        for (int what : WHATS) {
            for (int ticks : TICKS) {
                String both = "(" + ticks + ", " + what + ")";
                due("crowd" + both, within(what, 0, 1), within(ticks, 1, 60),
                    Check.answer(() -> post.crowd(ticks, what)));
                due("years" + both, within(what, 0, 2), within(ticks, 0, 60),
                    Check.answer(() -> post.years(ticks, ticks, what)));
            }
        }
    }

    private static void threeArguments(NodPost post) {
        for (int farm : FARMS) {
            for (int ticks : TICKS) {
                for (int third : WHATS) {
                    String all = "(" + farm + ", " + ticks + ", " + third + ")";
                    due("then" + all, has(post, farm) && within(third, 0, 1), within(ticks, 0, 60),
                        Check.answer(() -> post.then(farm, ticks, third)));
                    due("byMist" + all, has(post, farm), within(ticks, 1, 5) && within(third, 0, 10),
                        Check.answer(() -> post.byMist(farm, ticks, third)));
                }
            }
        }
    }

    private static void refusedBeginnings(NodPost post) {
        for (int farm : FARMS) {
            due("sleep(" + farm + ")", has(post, farm), true, Check.answer(() -> post.sleep(farm, true)));
            due("sleep(" + farm + ") again", has(post, farm), true, Check.answer(() -> post.sleep(farm, true)));
            due("begin(" + farm + "), ASLEEP", has(post, farm), true, Check.answer(() -> post.begin(farm)));
            due("wake(" + farm + ")", has(post, farm), true, Check.answer(() -> post.sleep(farm, false)));
            due("begin(" + farm + ")", has(post, farm), true, Check.answer(() -> post.begin(farm)));
        }
        for (int n : TICKS) {
            due("upland(" + n + ")", true, n == 0, Check.answer(() -> post.upland(n)));
        }
    }

    // ---- What changes nothing

    private static NodPost lived(String land) {
        NodPost post = Check.post(land);
        post.begin(0);
        post.begin(7);
        post.ticks(3);
        post.hat(2, 8);
        post.sleep(5, true);
        post.image();
        post.ticks(1);
        post.see(3, 2, false);
        post.ticks(0);
        post.see(3, 21, false);
        post.feed(1, 2, 3, 4, 5);
        return post;
    }

    /** All that can be asked of what is so now. */
    private static String whole(NodPost post) {
        StringBuilder text = new StringBuilder();
        for (int what = 0; what <= 15; what++) {
            text.append(post.count(what)).append(' ');
        }
        for (int farm = 0; farm < post.count(0); farm++) {
            for (int what = 0; what <= 9; what++) {
                text.append(post.farm(farm, what)).append(' ');
            }
        }
        for (int k = 1; k <= 60; k++) {
            text.append(post.nodding(k)).append(' ');
        }
        return text.append(post.fault()).append(' ').append(post.begun(0)).append(' ').append(post.begun(2)).toString();
    }

    private static void changesNothing(NodPost post, List<Function<NodPost, Object>> calls) {
        String before = whole(post);
        for (int i = 0; i < calls.size(); i++) {
            Function<NodPost, Object> call = calls.get(i);
            Check.answer(() -> call.apply(post));
            Check.is("call " + i + " has changed something", whole(post), before);
        }
    }

    private static List<Function<NodPost, Object>> asking() {
        List<Function<NodPost, Object>> calls = new ArrayList<>();
        calls.add(NodPost::fault);
        calls.add(NodPost::still);
        calls.add(NodPost::line);
        for (int i = 0; i <= 15; i++) {
            int what = i;
            calls.add(post -> post.count(what));
            calls.add(post -> post.farm(what % 9, what % 10));
        }
        for (int farm = 0; farm < 9; farm++) {
            int one = farm;
            int other = (farm + 3) % 9;
            calls.add(post -> post.then(one, 60, one % 2));
            calls.add(post -> post.first(one));
            calls.add(post -> post.reaches(one, other));
            calls.add(post -> post.reached(one, 60));
            calls.add(post -> post.through(one, other));
            calls.add(post -> post.way(one, other));
            calls.add(post -> post.toHat(one, other));
            calls.add(post -> post.between(one, other));
            calls.add(post -> post.hidden(one));
            calls.add(post -> post.byMist(one, 5, one));
            calls.add(post -> post.game(one, other, one % 2));
            calls.add(post -> post.years(77 * one, 60, one % 3));
            calls.add(post -> post.begun(one % 3));
            calls.add(post -> post.look(one % 2));
        }
        for (int ticks : new int[] {1, 2, 59, 60}) {
            calls.add(post -> post.nodding(ticks));
            calls.add(post -> post.loudest(ticks));
            calls.add(post -> post.oftenest(ticks));
            calls.add(post -> post.best(ticks));
            calls.add(post -> post.toBegin(ticks));
            calls.add(post -> post.crowd(ticks, ticks % 2));
        }
        return calls;
    }

    private static List<Function<NodPost, Object>> throwing() {
        List<Function<NodPost, Object>> calls = new ArrayList<>();
        for (int wrong : new int[] {-1, 99, Integer.MIN_VALUE, Integer.MAX_VALUE}) {
            calls.add(post -> post.upland(wrong));
            calls.add(post -> post.count(wrong));
            calls.add(post -> post.farm(wrong, 0));
            calls.add(post -> post.farm(0, wrong));
            calls.add(post -> post.begin(wrong));
            calls.add(post -> post.sleep(wrong, true));
            calls.add(post -> post.hat(wrong, 3));
            calls.add(post -> post.hat(wrong, 99));
            calls.add(post -> post.nodding(wrong));
            calls.add(post -> post.then(wrong, 1, 1));
            calls.add(post -> post.then(0, wrong, 1));
            calls.add(post -> post.then(0, 1, wrong));
            calls.add(post -> post.first(wrong));
            calls.add(post -> post.loudest(wrong));
            calls.add(post -> post.oftenest(wrong));
            calls.add(post -> post.reaches(0, wrong));
            calls.add(post -> post.reached(0, wrong));
            calls.add(post -> post.through(0, wrong));
            calls.add(post -> post.best(wrong));
            calls.add(post -> post.toBegin(wrong));
            calls.add(post -> post.way(wrong, 0));
            calls.add(post -> post.toHat(wrong, 0));
            calls.add(post -> post.between(wrong, 0));
            calls.add(post -> post.hidden(wrong));
            calls.add(post -> post.crowd(wrong, 0));
            calls.add(post -> post.crowd(1, wrong));
            calls.add(post -> post.see(wrong, 1, true));
            calls.add(post -> post.see(wrong, 99, true));
            calls.add(post -> post.begun(wrong));
            calls.add(post -> post.look(wrong));
            calls.add(post -> post.byMist(0, wrong, 0));
            calls.add(post -> post.byMist(0, 1, wrong));
            calls.add(post -> post.game(0, wrong, 0));
            calls.add(post -> post.game(0, 1, wrong));
            calls.add(post -> post.game(1, 1, 0));
            calls.add(post -> post.years(0, wrong, 0));
            calls.add(post -> post.years(0, 1, wrong));
        }
        return calls;
    }

    /** Each call that is refused: just its own STATUS is one more. */
    private static void refusals() {
        refused("ticks(0)", 14, -1, post -> post.ticks(0));
        refused("ticks(21)", 14, -1, post -> post.ticks(21));
        refused("begin, ASLEEP", 14, false, post -> post.begin(5));
        refused("sleep, ASLEEP", 14, false, post -> post.sleep(5, true));
        refused("wake, awake", 14, false, post -> post.sleep(4, false));
        refused("hat 21", 14, -1, post -> post.hat(4, 21));
        refused("hat -1", 14, -1, post -> post.hat(5, -1));
        refused("see 0", 15, -1, post -> post.see(4, 0, true));
        refused("see 21", 15, -1, post -> post.see(4, 21, false));
    }

    private static void refused(String call, int status, Object due, Function<NodPost, Object> asking) {
        NodPost post = lived(NINE);
        String before = whole(post);
        int was = post.count(status);
        Check.is(call, asking.apply(post), due);
        Check.is(call + ", STATUS", post.count(status), was + 1);
        for (int other = 13; other <= 15; other++) {
            Check.is(call + ", STATUS " + other, post.count(other), (other == 13 ? 0 : 1) + (other == status ? 1 : 0));
        }
        Check.is(call + ", what has changed", withoutStatus(whole(post)), withoutStatus(before));
        Check.is(call + ", the image", post.restore(), true);
        Check.is(call + ", STATUS as it was", post.count(13) + post.count(14) + post.count(15), 0);
    }

    private static String withoutStatus(String whole) {
        String[] words = whole.split(" ");
        words[13] = "";
        words[14] = "";
        words[15] = "";
        return String.join(" ", words);
    }

    /** A TEXT with a FAULT: all stays, but STATUS, the tape and the place; hush without anyone; a full tape. */
    private static void fullAndEmpty() {
        NodPost post = lived(NINE);
        String[] before = withoutStatus(whole(post)).split(" ");
        Check.is("byte 0 is no TOKEN", post.upland(20), 1);
        String[] behind = withoutStatus(whole(post)).split(" ");
        for (int i = 0; i < before.length; i++) {
            // Word 12 is the tape's length; the place is the third last one.
            String due = i == 12 ? "0" : i == before.length - 3 ? "0" : before[i];
            Check.is("word " + i + " behind a FAULT", behind[i], due);
        }
        Check.is("STATUS 0", post.count(13), 1);
        post.hush();
        String hushed = withoutStatus(whole(post));
        Check.is("nobody is WAITING", post.hush(), -1);
        Check.is("nothing has changed", withoutStatus(whole(post)), hushed);
        for (int i = 0; i < 35; i++) {
            post.feed(i, i, i, i, i);
        }
        String full = whole(post);
        Check.is("a full tape", post.feed(1, 2, 3, 4, 5), -1);
        Check.is("nothing has changed", whole(post), full);
        NodPost none = new NodPost();
        String empty = whole(none);
        Check.is("nothing to undo", none.undo(), -1);
        Check.is("no image", none.restore(), false);
        none.forget();
        Check.is("nothing has changed", whole(none), empty);
    }

    /** One of two that do the same is asked, refused and made to throw between: their ACTS and images stay the same. */
    private static void actsOfTwins() {
        NodPost quiet = lived(NINE);
        NodPost asked = lived(NINE);
        List<Function<NodPost, Object>> calls = asking();
        calls.addAll(throwing());
        for (Function<NodPost, Object> call : calls) {
            Check.answer(() -> call.apply(asked));
        }
        Check.is("a refusal", asked.ticks(0) + asked.hat(0, 21), -2);
        for (int left = 5; left >= 0; left--) {
            Check.is("undo", asked.undo(), left);
            Check.is("undo of its twin", quiet.undo(), left);
            Check.is("twins", withoutStatus(whole(asked)), withoutStatus(whole(quiet)));
        }
        Check.is("undo", asked.undo(), -1);
        Check.is("restore", asked.restore(), quiet.restore());
        Check.is("twins", whole(asked), whole(quiet));
        for (int left = 4; left >= 0; left--) {
            Check.is("undo behind restore", asked.undo(), left);
            quiet.undo();
            Check.is("twins", whole(asked), whole(quiet));
        }
    }
}
