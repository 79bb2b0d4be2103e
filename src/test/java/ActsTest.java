/** Promises 5 to 12: count, farm, ticks, begin, sleep, hat, hush, undo. */
public final class ActsTest {
    /** 0 and 1, 1 and 2 are in sight of each other; 1 is slow. */
    private static final String CHAIN = "farm 0 0 0 1;farm 10 0 0 2;farm 20 0 0 1;sight 10;";

    private ActsTest() {
    }

    public static void main(String[] args) {
        counts();
        aNodGoesOn();
        rests();
        ticksRefused();
        begins();
        sleeps();
        hats();
        hushes();
        undoes();
        Check.end("ActsTest");
    }

    private static void counts() {
        NodPost post = Check.post("farm 0 1 2 3;farm 9 8 7 4;mist 3 1;sight 50;rest 4;");
        post.begin(1);
        post.sleep(0, true);
        post.see(0, 1, false);
        post.feed(0, 0, 0, 0, 0);
        int[] due = {2, 0, 3, 50, 4, 1, 2, 1, 1, 1, 2, 1, 20, 0, 0, 0};
        for (int what = 0; what < due.length; what++) {
            Check.is("count " + what, post.count(what), due[what]);
        }
        post.begin(0);
        post.see(0, 21, false);
        Check.is("refused acts", post.count(14), 1);
        Check.is("refused seen", post.count(15), 1);
        Check.noSuch("count(-1)", () -> post.count(-1));
        Check.noSuch("count(16)", () -> post.count(16));
        int[] farm = {9, 8, 7, 4, 1, 0, 0, 0, 0, 1};
        for (int what = 0; what < farm.length; what++) {
            Check.is("farm 1, " + what, post.farm(1, what), farm[what]);
        }
        Check.is("ASLEEP", post.farm(0, 7), 1);
        Check.is("SEES, were it awake", post.farm(0, 9), 2);
        Check.noSuch("farm(0, -1)", () -> post.farm(0, -1));
        Check.noSuch("farm(0, 10)", () -> post.farm(0, 10));
        Check.noSuch("farm(2, 0)", () -> post.farm(2, 0));
        Check.noSuch("farm(-1, 0)", () -> post.farm(-1, 0));
    }

    private static void state(String when, NodPost post, int what, int... due) {
        for (int farm = 0; farm < due.length; farm++) {
            Check.is(when + ": farm(" + farm + ", " + what + ")", post.farm(farm, what), due[farm]);
        }
    }

    private static void aNodGoesOn() {
        NodPost post = Check.post(CHAIN);
        Check.is("begin", post.begin(0), true);
        state("begun", post, 4, 1, 0, 0);
        Check.is("1st", post.ticks(1), 1);
        state("1st", post, 4, 0, 2, 0);
        state("1st", post, 5, 3, 0, 0);
        state("1st", post, 6, 1, 0, 0);
        Check.is("2nd", post.ticks(1), 2);
        state("2nd", post, 4, 0, 1, 0);
        state("2nd", post, 5, 2, 0, 0);
        Check.is("3rd", post.ticks(1), 3);
        state("3rd", post, 4, 0, 0, 1);
        state("3rd", post, 5, 1, 3, 0);
        state("3rd", post, 6, 1, 1, 0);
        Check.is("4th", post.ticks(1), 4);
        state("4th", post, 4, 0, 0, 0);
        state("4th", post, 5, 0, 2, 3);
        state("4th", post, 6, 1, 1, 1);
        Check.is("twenty more", post.ticks(20), 24);
        state("24th", post, 5, 0, 0, 0);
        state("24th", post, 6, 1, 1, 1);
    }

    private static void rests() {
        // 1 nods two ticks behind 0: by rest 1 that one is free again in this very tick, by rest 2 too, by 3 not.
        int[] due = {1, 1, 1, 0};
        for (int rest = 0; rest <= 3; rest++) {
            NodPost post = Check.post(CHAIN + "rest " + rest + ";");
            post.begin(0);
            post.ticks(3);
            Check.is("rest " + rest + ": 0 is WAITING", post.farm(0, 4), due[rest]);
        }
        // Who nods in the same tick doesn't mind the other, even without a rest.
        NodPost both = Check.post("farm 0 0 0 1;farm 9 0 0 1;rest 0;");
        both.begin(0);
        both.begin(1);
        both.ticks(1);
        Check.is("nobody is WAITING", both.count(6), 0);
        state("both", both, 6, 1, 1);
        // Who is WAITING already isn't WAITING anew.
        NodPost slow = Check.post("farm 0 0 0 1;farm 1 0 0 5;farm 2 0 0 1;farm 3 9 0 1;sight 2;");
        slow.begin(0);
        slow.ticks(1);
        slow.begin(2);
        slow.ticks(1);
        Check.is("WAITING goes on", slow.farm(1, 4), 4);
    }

    private static void ticksRefused() {
        NodPost post = Check.post(CHAIN);
        int[] wrong = {0, -1, 21, Integer.MAX_VALUE, Integer.MIN_VALUE};
        for (int i = 0; i < wrong.length; i++) {
            Check.is("ticks(" + wrong[i] + ")", post.ticks(wrong[i]), -1);
            Check.is("refused", post.count(14), i + 1);
        }
        Check.is("no act", post.count(10), 0);
        for (int i = 1; i <= 49; i++) {
            Check.is("ticks(20)", post.ticks(20), 20 * i);
        }
        Check.is("above 999", post.ticks(20), -1);
        Check.is("999", post.ticks(19), 999);
        Check.is("above 999", post.ticks(1), -1);
        Check.is("the TICK", post.count(1), 999);
        Check.is("refused", post.count(14), 7);
        post.begin(0);
        Check.is("ahead of 999 it goes on", post.first(2), 4);
    }

    private static void begins() {
        NodPost post = Check.post(CHAIN);
        Check.noSuch("begin(3)", () -> post.begin(3));
        Check.noSuch("begin(-1)", () -> post.begin(-1));
        post.begin(0);
        post.ticks(1);
        Check.is("WAITING two", post.farm(1, 4), 2);
        Check.is("begin, though WAITING", post.begin(1), true);
        Check.is("WAITING one", post.farm(1, 4), 1);
        Check.is("begin, though RESTING", post.begin(0), true);
        Check.is("RESTS as it did", post.farm(0, 5), 3);
        post.ticks(1);
        state("both nod", post, 6, 2, 1, 0);
        state("both rest anew", post, 5, 3, 3, 0);
        post.sleep(2, true);
        Check.is("begin, ASLEEP", post.begin(2), false);
        Check.is("refused", post.count(14), 1);
        Check.is("acts", post.count(10), 6);
        Check.is("begin twice is two acts", post.begin(0) && post.begin(0), true);
        Check.is("acts", post.count(10), 8);
    }

    private static void sleeps() {
        NodPost post = Check.post(CHAIN);
        Check.noSuch("sleep(3, ..)", () -> post.sleep(3, true));
        Check.noSuch("sleep(-1, ..)", () -> post.sleep(-1, false));
        Check.is("awake already", post.sleep(0, false), false);
        Check.is("refused", post.count(14), 1);
        post.begin(0);
        post.begin(1);
        Check.is("sleep", post.sleep(1, true), true);
        Check.is("ASLEEP already", post.sleep(1, true), false);
        Check.is("refused", post.count(14), 2);
        Check.is("ASLEEP", post.count(5), 2);
        Check.is("it isn't WAITING any more", post.count(6), 1);
        post.ticks(1);
        Check.is("ASLEEP it sees nothing", post.count(6), 0);
        Check.is("wake", post.sleep(1, false), true);
        Check.is("awake", post.count(5), 0);
        post.begin(2);
        post.ticks(1);
        Check.is("awake it sees", post.count(6), 2);
        NodPost rests = Check.post(CHAIN);
        rests.begin(0);
        rests.ticks(1);
        rests.sleep(0, true);
        rests.ticks(1);
        Check.is("ASLEEP one RESTS on", rests.farm(0, 5), 2);
    }

    private static void hats() {
        NodPost post = Check.post("farm 0 10 0 1;farm 10 5 4 1;farm 20 10 0 1;");
        Check.noSuch("hat(3, 0)", () -> post.hat(3, 0));
        Check.noSuch("hat(-1, 99)", () -> post.hat(-1, 99));
        Check.is("over 9 one sees", post.farm(0, 9), 6);
        Check.is("hat", post.hat(1, 5), 4);
        Check.is("over 10 one doesn't", post.farm(0, 9), 2);
        post.begin(0);
        post.ticks(1);
        Check.is("so the nod doesn't get there", post.count(6), 2);
        Check.is("hat(.., 21)", post.hat(1, 21), -1);
        Check.is("hat(.., -1)", post.hat(1, -1), -1);
        Check.is("refused", post.count(14), 2);
        Check.is("hat(.., 20)", post.hat(1, 20), 5);
        Check.is("hat(.., 0)", post.hat(1, 0), 20);
        Check.is("the same one is an act too", post.hat(1, 0), 0);
        Check.is("acts", post.count(10), 6);
    }

    private static void hushes() {
        NodPost post = Check.post(CHAIN);
        Check.is("nobody is WAITING", post.hush(), -1);
        Check.is("refused", post.count(14), 1);
        post.begin(0);
        post.ticks(1);
        post.begin(2);
        Check.is("hush", post.hush(), 6);
        Check.is("nobody is WAITING", post.count(6), 0);
        Check.is("0 RESTS on", post.farm(0, 5), 3);
        Check.is("acts", post.count(10), 4);
        Check.is("nobody is WAITING", post.hush(), -1);
        Check.is("acts", post.count(10), 4);
        post.begin(0);
        post.begin(1);
        Check.is("hush", post.hush(), 3);
        Check.is("nobody is WAITING", post.count(6), 0);
    }

    private static void undoes() {
        NodPost post = Check.post("farm 0 10 0 1;farm 10 5 4 2;farm 20 10 0 1;");
        Check.is("none", post.undo(), -1);
        post.begin(0);
        post.ticks(3);
        post.hat(1, 20);
        post.sleep(2, true);
        post.see(1, 1, true);
        post.begin(2);
        Check.is("sleep undone", post.undo(), 3);
        Check.is("awake", post.count(5), 0);
        Check.is("20 is in the way", post.farm(0, 9), 2);
        Check.is("hat undone", post.undo(), 2);
        Check.is("HAT", post.farm(1, 2), 4);
        Check.is("over it one sees again", post.farm(0, 9), 6);
        state("3rd", post, 6, 1, 1, 1);
        Check.is("ticks undone", post.undo(), 1);
        Check.is("the TICK", post.count(1), 0);
        state("ahead of all", post, 6, 0, 0, 0);
        state("ahead of all", post, 5, 0, 0, 0);
        Check.is("WAITING", post.count(6), 1);
        Check.is("begin undone", post.undo(), 0);
        Check.is("nobody is WAITING", post.count(6), 0);
        Check.is("none", post.undo(), -1);
        Check.is("what is SEEN stays", post.count(11), 1);
        Check.is("STATUS stays", post.count(14), 1);
        post.begin(2);
        post.ticks(1);
        post.sleep(1, true);
        post.sleep(0, true);
        post.undo();
        Check.is("1 is ASLEEP still", post.count(5), 2);
        state("1 is ASLEEP", post, 5, 0, 0, 3);
        post.ticks(5);
        post.undo();
        state("2 RESTS again", post, 5, 0, 0, 3);
        state("2 has nodded", post, 6, 0, 0, 1);
        for (int left = 2; left >= 0; left--) {
            Check.is("undo", post.undo(), left);
        }
        for (int i = 1; i <= 45; i++) {
            post.ticks(1);
            Check.is("acts kept", post.count(10), Math.min(i, 40));
        }
        for (int left = 39; left >= 0; left--) {
            Check.is("undo", post.undo(), left);
            Check.is("the TICK", post.count(1), 5 + left);
        }
        Check.is("the oldest five are gone", post.undo(), -1);
        Check.is("the TICK", post.count(1), 5);
    }
}
