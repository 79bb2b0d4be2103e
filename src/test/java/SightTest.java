/** Promises 24 to 28, SEES of farm, PARTS, A WATCH and A STARE of count. */
public final class SightTest {
    private static final String FLAT = "farm 0 0 0 1;farm 10 0 0 1;farm 20 0 0 1;farm 30 0 0 1;farm 60 0 0 1;";

    private SightTest() {
    }

    public static void main(String[] args) {
        straightLines();
        howFar();
        waysAndParts();
        watches();
        stares();
        hatsThatAreNeeded();
        lines();
        wrongInputs();
        Check.end("SightTest");
    }

    /** Farms at 0, x and far, with these heights: whether the outer ones see each other over the middle one. */
    private static void over(int height, int x, int middle, int far, int other, boolean due) {
        NodPost post = Check.post("farm " + far + " " + other + " 0 1;farm 0 " + height + " 0 1;farm " + x + " " + middle
            + " 0 1;sight 99;");
        String what = height + " over " + middle + " to " + other;
        Check.is(what, post.farm(0, 9) >> 1 & 1, due ? 1 : 0);
        Check.is(what + ", back", post.farm(1, 9) & 1, due ? 1 : 0);
        Check.is(what + ", in the way", post.between(0, 1), due ? 0 : 4);
        Check.is(what + ", back in the way", post.between(1, 0), due ? 0 : 4);
        Check.is(what + ", hidden", post.hidden(1), due ? 0 : 1);
        Check.is(what + ", steps", post.way(0, 1), due ? 1 : 2);
    }

    private static void straightLines() {
        over(10, 10, 10, 20, 10, false);
        over(10, 10, 9, 20, 10, true);
        over(0, 10, 5, 20, 10, false);
        over(0, 10, 4, 20, 10, true);
        over(0, 3, 3, 10, 10, false);
        over(0, 3, 2, 10, 10, true);
        // The line is at 1.5 there.
        over(0, 3, 1, 10, 5, true);
        over(0, 3, 2, 10, 5, false);
        over(5, 7, 2, 10, 0, false);
        over(5, 7, 1, 10, 0, true);
        over(99, 98, 0, 99, 0, true);
        over(0, 1, 1, 99, 99, false);
        over(0, 9, 5, 10, 0, false);
        over(0, 1, 5, 10, 0, false);
        NodPost hats = Check.post("farm 0 3 7 1;farm 10 2 8 1;farm 20 10 0 1;");
        Check.is("hats count", hats.between(0, 2), 2);
        NodPost many = Check.post("farm 50 9 0 1;farm 0 3 0 1;farm 40 5 0 1;farm 99 3 0 1;farm 20 9 0 1;farm 70 0 0 1;");
        Check.is("all that are in the way", many.between(1, 3), 1 | 4 | 16);
        Check.is("just those between", many.between(2, 5), 1);
        Check.is("oneself", many.between(1, 1), 0);
    }

    private static void howFar() {
        NodPost post = Check.post("farm 0 0 0 1;farm 42 0 0 1;mist 2 3 0;");
        Check.is("60 less 18", post.farm(0, 9), 2);
        Check.is("hidden", post.hidden(0), 0);
        post.ticks(1);
        Check.is("60 less 27", post.farm(0, 9), 0);
        Check.is("hidden", post.hidden(0), 2);
        Check.is("SIGHT apart", post.between(0, 1), 0);
        Check.is("a way", post.way(0, 1), -1);
        Check.is("a hat", post.toHat(0, 1), -1);
        Check.is("parts", post.count(7), 2);
        Check.is("watch", post.count(8), 3);
        Check.is("stare", post.count(9), -1);
        Check.is("line", post.line(), 1);
        post.ticks(1);
        Check.is("60", post.farm(1, 9), 1);
        Check.is("a hat", post.toHat(0, 1), 0);
        Check.is("line", post.line(), 2);
        Check.is("61 away", Check.post("farm 0 0 0 1;farm 61 0 0 1;").farm(0, 9), 0);
        Check.is("60 away", Check.post("farm 0 0 0 1;farm 60 0 0 1;").farm(0, 9), 2);
        Check.is("below 0", Check.post("farm 0 0 0 1;farm 1 0 0 1;mist 9;").farm(0, 9), 0);
    }

    private static void waysAndParts() {
        NodPost post = Check.post(FLAT + "sight 20;");
        Check.is("parts", post.count(7), 2);
        Check.is("way to itself", post.way(4, 4), 0);
        Check.is("way", post.way(0, 3), 3);
        Check.is("way back", post.way(3, 1), 2);
        Check.is("no way", post.way(0, 4), -1);
        Check.is("hidden", post.hidden(0), 28);
        Check.is("hidden", post.hidden(2), 17);
        post.sleep(1, true);
        Check.is("way by who is ASLEEP", post.way(0, 3), 3);
        Check.is("parts, ASLEEP or not", post.count(7), 2);
        Check.is("parts", Check.post(FLAT + "sight 9;").count(7), 5);
        NodPost nine = Check.post("farm 80 0 0 1;farm 70 0 0 1;farm 60 0 0 1;farm 50 0 0 1;farm 40 0 0 1;"
            + "farm 30 0 0 1;farm 20 0 0 1;farm 10 0 0 1;farm 0 0 0 1;");
        Check.is("way of nine", nine.way(0, 8), 8);
        Check.is("parts of nine", nine.count(7), 1);
        Check.is("watch of nine", nine.count(8), 2 | 16 | 128);
        Check.is("line of nine", nine.line(), 9);
        Check.is("parts", Check.post(FLAT).count(7), 1);
    }

    private static void watches() {
        Check.is("watch", Check.post(FLAT + "sight 20;").count(8), 21);
        Check.is("watch of all", Check.post(FLAT + "sight 9;").count(8), 31);
        Check.is("watch of one", Check.post("farm 5 0 0 1;").count(8), 1);
        // From 2, at the top, all are seen.
        Check.is("watch", Check.post("farm 0 0 0 1;farm 10 0 0 1;farm 20 50 0 1;farm 30 0 0 1;farm 40 0 0 1;").count(8), 4);
        // From 0 and 1 too, but fewer come first.
        Check.is("watch", Check.post("farm 30 0 0 1;farm 10 0 0 1;farm 20 0 0 1;").count(8), 4);
    }

    private static void stares() {
        Check.is("of like ones the first", Check.post(FLAT + "sight 20;").count(9), 1);
        Check.is("the farthest", Check.post(FLAT).count(9), 34);
        Check.is("none", Check.post(FLAT + "sight 9;").count(9), -1);
        Check.is("none of one", Check.post("farm 5 0 0 1;").count(9), -1);
        Check.is("side by side", Check.post("farm 5 0 0 1;farm 6 0 0 1;").count(9), 1);
        Check.is("the lesser first", Check.post("farm 90 0 0 1;farm 5 0 0 1;farm 80 0 0 1;farm 30 0 0 1;").count(9), 23);
    }

    private static void hatsThatAreNeeded() {
        NodPost post = Check.post("farm 0 0 3 1;farm 10 9 0 1;farm 20 0 0 1;sight 30;farm 31 0 0 1;");
        Check.is("to hat", post.toHat(0, 2), 19);
        Check.is("to hat, back", post.toHat(2, 0), 16);
        Check.is("the hat stays", post.farm(0, 2), 3);
        Check.is("in sight already", post.toHat(0, 1), 0);
        Check.is("too far", post.toHat(0, 3), -1);
        Check.is("both are one", post.toHat(1, 1), -1);
        post.hat(1, 1);
        Check.is("too high", post.toHat(2, 0), 18);
        post.hat(0, 0);
        Check.is("too high", post.toHat(2, 0), -1);
        Check.is("too high", post.toHat(0, 2), -1);
        NodPost tall = Check.post("farm 0 0 20 1;farm 10 9 0 1;farm 20 0 0 1;");
        Check.is("a lower one would do", tall.toHat(0, 2), 19);
        Check.is("the tallest one", Check.post("farm 0 9 0 1;farm 10 19 0 1;farm 20 10 0 1;").toHat(0, 2), 20);
        Check.is("taller than the tallest", Check.post("farm 0 9 0 1;farm 10 19 0 1;farm 20 9 0 1;").toHat(0, 2), -1);
        Check.is("of no farm", tall.count(10), 0);
    }

    private static void lines() {
        Check.is("line", Check.post(FLAT + "sight 20;").line(), 4);
        Check.is("line of all", Check.post(FLAT + "sight 30;").line(), 5);
        Check.is("line of one", Check.post(FLAT + "sight 1;").line(), 1);
        Check.is("none", new NodPost().line(), 0);
        Check.is("by X, not by number", Check.post("farm 50 0 0 1;farm 0 0 0 1;farm 60 0 0 1;farm 99 0 0 1;"
            + "farm 70 0 0 1;sight 12;").line(), 3);
        Check.is("the second row is longer", Check.post("farm 0 0 0 1;farm 5 0 0 1;farm 50 0 0 1;farm 55 0 0 1;"
            + "farm 60 0 0 1;sight 12;").line(), 3);
    }

    private static void wrongInputs() {
        NodPost post = Check.post(FLAT);
        for (int farm : new int[] {-1, 5, Integer.MIN_VALUE, Integer.MAX_VALUE}) {
            Check.noSuch("way", () -> post.way(farm, 0));
            Check.noSuch("way", () -> post.way(0, farm));
            Check.noSuch("way", () -> post.way(farm, farm));
            Check.noSuch("toHat", () -> post.toHat(farm, 0));
            Check.noSuch("toHat", () -> post.toHat(0, farm));
            Check.noSuch("toHat", () -> post.toHat(farm, farm));
            Check.noSuch("between", () -> post.between(farm, 0));
            Check.noSuch("between", () -> post.between(0, farm));
            Check.noSuch("between", () -> post.between(farm, farm));
            Check.noSuch("hidden", () -> post.hidden(farm));
        }
    }
}
