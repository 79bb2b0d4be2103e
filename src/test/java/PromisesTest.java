import java.lang.reflect.InvocationTargetException;
import java.lang.reflect.Method;
import java.lang.reflect.Modifier;
import java.util.Arrays;
import java.util.HashMap;
import java.util.HashSet;
import java.util.Map;
import java.util.Set;

/** The document's promises in their order, 1 to 38, on one upland whose nods were followed by hand. */
public final class PromisesTest {
    /**
     * In sight of each other: 0 and 1, 1 and 2, 2 and 3, 3 and 4, and without mist 1 and 3 as well, who don't mind each
     * other, as they are 40 apart. In every second tick mist lets one see 27 instead of 45.
     */
    private static final String LAND = "shepherd 5 10 0 1;farm 20 30 5 2;farm 35 10 0 1;farm 60 40 2 3;farm 80 10 0 1;\n"
        + "sight 45; mist 0 2; rest 2; minds seen+far<40;";
    private static final int[] ALL_NODDING = {1, 0, 2, 5, 0, 0, 8, 20, 0, 2, 5, 0, 0, 8, 20, 0, 2, 5, 0, 0, 8, 20};
    private static final Map<String, Method> FACE = new HashMap<>();
    private static final Map<String, Set<String>> ANSWERS = new HashMap<>();
    private static NodPost post = new NodPost();
    private static int promise = 0;

    private PromisesTest() {
    }

    public static void main(String[] args) throws Exception {
        for (Method method : NodPost.class.getDeclaredMethods()) {
            if (Modifier.isPublic(method.getModifiers())) {
                FACE.put(method.getName(), method);
                ANSWERS.put(method.getName(), new HashSet<>());
            }
        }
        theText();
        whatIsSo();
        acts();
        ahead();
        reaching();
        sight();
        seen();
        chances();
        images();
        eachAnswerWasAskedFor();
        Check.end("PromisesTest");
    }

    private static void due(Object due, String call, Object... arguments) throws IllegalAccessException {
        Object got;
        try {
            got = FACE.get(call).invoke(post, arguments);
            ANSWERS.get(call).add("answer");
        } catch (InvocationTargetException e) {
            got = e.getCause().getClass().getSimpleName();
            ANSWERS.get(call).add(String.valueOf(got));
        }
        Check.is("promise " + promise + ", " + call + Arrays.toString(arguments), got, due);
    }

    private static void noSuch(String call, Object... arguments) throws IllegalAccessException {
        due(Check.NO_SUCH, call, arguments);
    }

    private static void illegal(String call, Object... arguments) throws IllegalAccessException {
        due(Check.ILLEGAL, call, arguments);
    }

    /** Asks a call with one number of each of these in turn. */
    private static void row(String call, int from, Object... due) throws IllegalAccessException {
        for (int i = 0; i < due.length; i++) {
            due(due[i], call, from + i);
        }
    }

    private static void whole(int number) {
        promise = number;
        post = Check.post(LAND);
    }

    private static void none(int number) {
        promise = number;
        post = new NodPost();
    }

    private static void told(String text, Object due, Object place) throws IllegalAccessException {
        Check.feed(post, text);
        due(due, "upland", text.length());
        due(place, "fault");
    }

    private static void theText() throws IllegalAccessException {
        none(1);
        row("count", 0, 0, 0, 0, 60, 3, 0, 0, 0, 0, -1, 0, 0, 0, 0, 0, 0);
        noSuch("farm", 0, 0);
        none(2);
        for (int bytes = 20; bytes <= 700; bytes += 20) {
            due(bytes, "feed", 0x66617266, 0x3b, -1, Integer.MIN_VALUE, 0);
        }
        due(-1, "feed", 0, 0, 0, 0, 0);
        due(700, "count", 12);
        none(3);
        due(20, "feed", 0x6661726d, 0x20372038, 0x20392035, 0x3b736967, 0x68742037);
        due(40, "feed", 0x3b202020, 0, 0, 0, 0);
        illegal("upland", 41);
        illegal("upland", -1);
        due(40, "count", 12);
        due(0, "upland", 21);
        row("count", 0, 1, 0, 0, 7);
        due(9, "farm", 0, 2);
        due(0, "count", 12);
        illegal("upland", 1);
        due(0, "upland", 0);
        row("count", 0, 0, 0, 0, 60);
        promise = 4;
        due(-1, "fault");
        told("farm 1 2 3 4", 1, 12);
        told("farm 1 2 3 4; rest 10;", 2, 19);
        told("minds seen < farm;", 3, 13);
        told("farm 1 2 3 4; farm 1 2 3 4;", 4, 19);
        told("rest 1; rest 1;", 5, 8);
        illegal("upland", 1);
        due(8, "fault");
        due(5, "count", 13);
        told("rest 1;", 0, -1);
    }

    private static void whatIsSo() throws IllegalAccessException {
        whole(5);
        row("count", 0, 5, 0, 0, 45, 2, 0, 0, 1, 9, 13, 0, 0, 0, 0, 0, 0);
        noSuch("count", 16);
        noSuch("count", -1);
        post.begin(3);
        post.sleep(1, true);
        post.ticks(1);
        post.see(0, 1, true);
        post.see(0, 0, true);
        post.ticks(0);
        post.ticks(21);
        post.feed(0, 0, 0, 0, 0);
        row("count", 0, 5, 1, 2, 45, 2, 2, 20, 1, 9, 23, 3, 1, 20, 0, 2, 1);
        promise = 6;
        int[][] farms = {{5, 10, 0, 1, 0, 0, 0, 0, 1, 2}, {20, 30, 5, 2, 0, 0, 0, 1, 0, 5},
            {35, 10, 0, 1, 1, 0, 0, 0, 0, 10}, {60, 40, 2, 3, 0, 2, 1, 0, 0, 20}, {80, 10, 0, 1, 1, 0, 0, 0, 0, 8}};
        for (int farm = 0; farm < farms.length; farm++) {
            for (int what = 0; what < 10; what++) {
                due(farms[farm][what], "farm", farm, what);
            }
        }
        noSuch("farm", 0, 10);
        noSuch("farm", 0, -1);
        noSuch("farm", 5, 0);
        noSuch("farm", -1, 0);
        post.undo();
        int[] sees = {2, 13, 10, 22, 8};
        for (int farm = 0; farm < sees.length; farm++) {
            due(sees[farm], "farm", farm, 9);
        }
    }

    private static void acts() throws IllegalAccessException {
        whole(7);
        post.begin(0);
        due(3, "ticks", 3);
        due(5, "count", 6);
        due(23, "ticks", 20);
        due(-1, "ticks", 0);
        due(-1, "ticks", 21);
        due(2, "count", 14);
        for (int tick = 43; tick <= 983; tick += 20) {
            due(tick, "ticks", 20);
        }
        due(-1, "ticks", 17);
        due(999, "ticks", 16);
        due(-1, "ticks", 1);
        due(4, "count", 14);
        whole(8);
        due(true, "begin", 4);
        due(1, "farm", 4, 4);
        post.sleep(3, true);
        due(false, "begin", 3);
        due(1, "count", 14);
        noSuch("begin", 5);
        whole(9);
        post.begin(0);
        due(true, "sleep", 0, true);
        due(false, "sleep", 0, true);
        due(0, "count", 6);
        due(true, "sleep", 0, false);
        due(false, "sleep", 0, false);
        due(2, "count", 14);
        noSuch("sleep", 5, true);
        whole(10);
        due(5, "hat", 1, 20);
        due(20, "hat", 1, 0);
        due(-1, "hat", 1, 21);
        due(-1, "hat", 1, -1);
        due(0, "farm", 1, 2);
        due(2, "count", 14);
        noSuch("hat", 5, 0);
        whole(11);
        due(-1, "hush");
        post.begin(1);
        post.begin(4);
        due(18, "hush");
        due(0, "count", 6);
        due(-1, "hush");
        due(2, "count", 14);
        whole(12);
        due(-1, "undo");
        post.begin(0);
        post.ticks(4);
        post.hat(0, 9);
        due(2, "undo");
        due(0, "farm", 0, 2);
        due(1, "undo");
        due(1, "count", 6);
        due(0, "undo");
        due(0, "count", 6);
        due(-1, "undo");
        due(0, "count", 14);
    }

    private static void ahead() throws IllegalAccessException {
        whole(13);
        post.begin(0);
        for (int k = 1; k <= ALL_NODDING.length; k++) {
            due(ALL_NODDING[k - 1], "nodding", k);
        }
        due(5, "nodding", 60);
        illegal("nodding", 0);
        illegal("nodding", 61);
        promise = 14;
        int[] waiting = {0, 0, 0, 0, 3, 2, 1, 0};
        int[] nods = {10, 9, 17, 8, 8};
        for (int ticks = 0; ticks < waiting.length; ticks++) {
            due(waiting[ticks], "then", 3, ticks, 0);
        }
        for (int farm = 0; farm < nods.length; farm++) {
            due(nods[farm], "then", farm, 60, 1);
        }
        noSuch("then", 5, 0, 0);
        noSuch("then", 0, 61, 2);
        illegal("then", 0, -1, 0);
        illegal("then", 0, 61, 0);
        promise = 15;
        row("first", 0, 1, 3, 4, 7, 8);
        post.sleep(2, true);
        row("first", 0, 1, 3, -1, -1, -1);
        noSuch("first", 5);
        whole(16);
        due(0, "still");
        post.begin(0);
        due(-1, "still");
        post.sleep(1, true);
        due(1, "still");
        whole(17);
        row("loudest", 1, 1, 1);
        post.begin(0);
        row("loudest", 1, 1, 1, 1, 4, 4);
        due(4, "loudest", 60);
        illegal("loudest", 0);
        illegal("loudest", 61);
        promise = 18;
        due(0, "oftenest", 11);
        due(2, "oftenest", 15);
        due(2, "oftenest", 60);
        illegal("oftenest", 0);
        illegal("oftenest", 61);
        none(18);
        due(-1, "oftenest", 1);
    }

    private static void reaching() throws IllegalAccessException {
        whole(19);
        int[][] when = {{1, 3, 4, 7, 8}, {2, 1, 2, 5, 6}, {4, 3, 1, 4, 5}, {5, 4, 2, 1, 2}, {8, 7, 5, 4, 1}};
        for (int farm = 0; farm < 5; farm++) {
            for (int other = 0; other < 5; other++) {
                due(when[farm][other], "reaches", farm, other);
            }
        }
        post.begin(3);
        post.sleep(4, true);
        due(7, "reaches", 0, 3);
        due(-1, "reaches", 0, 4);
        due(-1, "reaches", 4, 4);
        noSuch("reaches", 0, 5);
        noSuch("reaches", 5, 0);
        whole(20);
        int[] reached = {0, 16, 16, 16, 24, 28, 28, 30, 31, 31};
        for (int ticks = 0; ticks < reached.length; ticks++) {
            due(reached[ticks], "reached", 4, ticks);
        }
        noSuch("reached", 5, 61);
        illegal("reached", 0, -1);
        illegal("reached", 0, 61);
        whole(21);
        due(14, "through", 0, 4);
        due(14, "through", 4, 0);
        due(4, "through", 1, 3);
        due(0, "through", 0, 1);
        due(0, "through", 2, 2);
        post.sleep(1, true);
        due(0, "through", 0, 4);
        noSuch("through", 0, 5);
        noSuch("through", 5, 0);
        whole(22);
        row("best", 1, 0, 1, 1, 2, 2, 1, 1, 0, 0);
        illegal("best", 0);
        illegal("best", 61);
        none(22);
        due(-1, "best", 60);
        whole(23);
        row("toBegin", 1, 31, 10, 9, 9, 4, 2, 2, 1, 1);
        due(1, "toBegin", 60);
        illegal("toBegin", 0);
        illegal("toBegin", 61);
        for (int farm = 0; farm < 5; farm++) {
            post.sleep(farm, true);
        }
        due(0, "toBegin", 1);
    }

    private static void sight() throws IllegalAccessException {
        whole(24);
        due(3, "way", 0, 4);
        due(0, "way", 4, 4);
        post.ticks(1);
        due(4, "way", 4, 0);
        noSuch("way", 0, 5);
        noSuch("way", 5, 0);
        post = Check.post("farm 0 0 0 1;farm 61 0 0 1;farm 60 0 0 1;farm 99 0 0 1;sight 38;");
        due(-1, "way", 0, 1);
        due(1, "way", 1, 3);
        whole(25);
        due(0, "toHat", 1, 3);
        due(-1, "toHat", 0, 2);
        due(-1, "toHat", 3, 3);
        post.ticks(1);
        due(-1, "toHat", 1, 3);
        noSuch("toHat", 0, 5);
        noSuch("toHat", 5, 0);
        post = Check.post("farm 0 10 20 1;farm 10 15 0 1;farm 20 10 0 1;");
        due(11, "toHat", 0, 2);
        post.hat(1, 4);
        due(19, "toHat", 0, 2);
        post.hat(1, 5);
        due(-1, "toHat", 0, 2);
        whole(26);
        due(14, "between", 0, 4);
        due(2, "between", 3, 0);
        due(8, "between", 1, 4);
        due(0, "between", 1, 3);
        due(0, "between", 3, 3);
        noSuch("between", 0, 5);
        noSuch("between", 5, 0);
        whole(27);
        due(5, "line");
        post = Check.post(LAND.replace("sight 45", "sight 20"));
        due(3, "line");
        post.ticks(1);
        due(1, "line");
        none(27);
        due(0, "line");
        whole(28);
        row("hidden", 0, 28, 16, 17, 1, 7);
        post.ticks(1);
        row("hidden", 0, 28, 24, 17, 3, 7);
        noSuch("hidden", 5);
        whole(29);
        due(60, "crowd", 60, 1);
        post.begin(0);
        due(1, "crowd", 3, 0);
        due(2, "crowd", 4, 0);
        due(1, "crowd", 4, 1);
        due(4, "crowd", 11, 1);
        noSuch("crowd", 61, 2);
        illegal("crowd", 0, 0);
        illegal("crowd", 61, 1);
    }

    private static void seen() throws IllegalAccessException {
        whole(30);
        due(-1, "see", 0, 0, true);
        due(-1, "see", 0, 21, true);
        for (int many = 1; many <= 8; many++) {
            due(many, "see", 4, many == 1 ? 20 : 1, false);
        }
        due(-1, "see", 4, 1, false);
        due(3, "count", 15);
        noSuch("see", 5, 1, true);
        whole(31);
        begun(5, 0, 1);
        post.see(3, 4, true);
        begun(2, 2, 0);
        promise = 32;
        due(1, "look", 0);
        due(2, "look", 1);
        promise = 31;
        post.see(1, 3, true);
        begun(1, 2, 0);
        post.sleep(2, true);
        begun(0, -1, 0);
        promise = 32;
        due(-1, "look", 0);
        due(0, "look", 1);
        noSuch("look", 2);
        noSuch("look", -1);
        promise = 31;
        noSuch("begun", 3);
        noSuch("begun", -1);
        promise = 33;
        due(null, "forget");
        due(0, "count", 11);
        begun(4, 0, 1);
    }

    private static void begun(int many, int first, int without) throws IllegalAccessException {
        row("begun", 0, many, first, without);
    }

    private static void chances() throws IllegalAccessException {
        whole(34);
        post.begin(2);
        due(10, "byMist", 2, 1, 10);
        due(0, "byMist", 3, 3, 3);
        due(7000, "byMist", 3, 4, 3);
        due(700, "byMist", 1, 3, 3);
        due(4900, "byMist", 0, 4, 3);
        due(49000, "byMist", 0, 5, 3);
        due(10000, "byMist", 0, 4, 0);
        due(0, "byMist", 0, 4, 10);
        noSuch("byMist", 5, 0, 11);
        illegal("byMist", 0, 0, 5);
        illegal("byMist", 0, 6, 5);
        illegal("byMist", 0, 1, -1);
        illegal("byMist", 0, 1, 11);
        whole(35);
        due(3, "game", 0, 1, 0);
        due(0, "game", 0, 1, 1);
        due(3, "game", 2, 4, 0);
        noSuch("game", 0, 5, 0);
        noSuch("game", 5, 0, 0);
        noSuch("game", 0, 0, 2);
        illegal("game", 0, 0, 1);
        post.sleep(1, true);
        due(-1, "game", 0, 1, 0);
        due(-1, "game", 0, 1, 1);
        // Who begins nods, too: of two that costs more than the other one's nod gains.
        post = Check.post("farm 0 0 0 1;farm 1 0 0 1;rest 9;");
        due(1, "game", 0, 1, 0);
        due(0, "game", 0, 1, 1);
        whole(36);
        years(46, 1, 1, 0, 4);
        years(46, 3, 3, 0, 2);
        years(46, 5, 3, 4, 2);
        years(13, 3, 3, 0, 2);
        years(13, 5, 5, 0, 0);
        years(48, 5, 3, 4, 3);
        years(48, 0, 0, 0, 5);
        noSuch("years", 1, 61, 3);
        noSuch("years", 1, 1, -1);
        illegal("years", 1, -1, 0);
        illegal("years", 1, 61, 0);
        due(0, "count", 1);
    }

    private static void years(int seed, int n, int nods, int asleep, int silent) throws IllegalAccessException {
        due(nods, "years", seed, n, 0);
        due(asleep, "years", seed, n, 1);
        due(silent, "years", seed, n, 2);
    }

    private static void images() throws IllegalAccessException {
        whole(37);
        due(false, "restore");
        post.begin(0);
        post.ticks(3);
        due(null, "image");
        post.hat(1, 7);
        post.see(2, 2, true);
        due(-1, "ticks", 0);
        due(null, "image");
        post.sleep(1, true);
        post.ticks(9);
        post.forget();
        due(-1, "ticks", 0);
        promise = 38;
        due(true, "restore");
        row("count", 1, 3, 2, 45, 2, 0, 5, 1, 9, 23, 3, 1, 0, 0, 1, 0);
        due(7, "farm", 1, 2);
        due(2, "undo");
        due(5, "farm", 1, 2);
        due(1, "undo");
        due(0, "count", 1);
        due(true, "restore");
        due(3, "count", 1);
        told("x", 1, 0);
        due(true, "restore");
        told("", 0, -1);
        due(false, "restore");
    }

    /** That no call of the face was left out above, nor an exception that it may throw. */
    private static void eachAnswerWasAskedFor() {
        Check.is("calls of the face", FACE.size(), 37);
        for (Map.Entry<String, Method> call : FACE.entrySet()) {
            Set<String> due = new HashSet<>(Set.of("answer"));
            for (Class<?> exception : call.getValue().getExceptionTypes()) {
                due.add(exception.getSimpleName());
            }
            Check.is("answers of " + call.getKey(), ANSWERS.get(call.getKey()).equals(due), true);
        }
    }
}
