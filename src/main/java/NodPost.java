import java.util.NoSuchElementException;

/** Farms along an upland that pass nods on to each other. ../shared/DOC.md says what each call answers. */
public final class NodPost {
    public static final int NONE = -1;

    private static final int MOST_FARMS = 9;
    private static final int MOST_BYTES = 700;
    private static final int MOST_MISTS = 8;
    private static final int MOST_ACTS = 40;
    private static final int MOST_SEEN = 8;
    private static final int MOST_TICKS = 20;
    private static final int MOST_NODS = 999;
    private static final int LAST_TICK = 999;
    private static final int TALLEST_HAT = 20;
    private static final int THICKEST_MIST = 9;
    private static final int FAR_AHEAD = 60;
    private static final int SEEN_AHEAD = 20;
    private static final int GAME_TICKS = 9;

    private static final int REFUSED_TEXTS = 0;
    private static final int REFUSED_ACTS = 1;
    private static final int REFUSED_SEEN = 2;

    private final byte[] tape = new byte[MOST_BYTES];
    private int fed = 0;
    private final Reader reader = new Reader(tape);
    private final Upland land = new Upland();
    private final Book book = new Book();
    private final Book kept = new Book();
    private boolean keeps = false;
    private final Sight sight = new Sight(land);
    private final Sight trial = new Sight(land);
    private final Views views = new Views(land);
    private final Course course = new Course(land, sight);
    private final int[] foreseen = new int[(MOST_FARMS + 1) * SEEN_AHEAD];
    private final int[] gains = new int[8];

    public NodPost() {
    }

    // ---- The text

    public int feed(int a, int b, int c, int d, int e) {
        if (fed + 20 > MOST_BYTES) {
            return NONE;
        }
        feedNumber(a);
        feedNumber(b);
        feedNumber(c);
        feedNumber(d);
        feedNumber(e);
        return fed;
    }

    private void feedNumber(int number) {
        for (int shift = 24; shift >= 0 && fed < tape.length; shift -= 8) {
            tape[fed] = (byte) (number >>> shift);
            fed++;
        }
    }

    public int upland(int n) throws IllegalArgumentException {
        if (n < 0 || n > fed) {
            throw new IllegalArgumentException("the tape has not so many bytes");
        }
        fed = 0;
        if (!reader.reads(n)) {
            book.refused[REFUSED_TEXTS]++;
            return reader.wrong;
        }
        land.copy(reader.draft);
        book.state.settle(land);
        book.acts.clear();
        book.seen.clear();
        keeps = false;
        sight.build(book.state.hats);
        return 0;
    }

    public int fault() {
        return reader.place;
    }

    // ---- What is so

    public int count(int what) throws NoSuchElementException {
        switch (what) {
            case 0: return land.farms;
            case 1: return book.state.tick;
            case 2: return mistNow();
            case 3: return land.sight;
            case 4: return land.rest;
            case 5: return book.state.asleep;
            case 6: return book.state.whoWaits();
            case 7: return viewsNow().parts();
            case 8: return viewsNow().watch();
            case 9: return viewsNow().stare();
            case 10: return book.acts.size;
            case 11: return book.seen.size;
            case 12: return fed;
            case 13: return book.refused[REFUSED_TEXTS];
            case 14: return book.refused[REFUSED_ACTS];
            case 15: return book.refused[REFUSED_SEEN];
            default: throw new NoSuchElementException("no such count");
        }
    }

    public int farm(int farm, int what) throws NoSuchElementException {
        needFarm(farm);
        State state = book.state;
        switch (what) {
            case 0: return land.x[farm];
            case 1: return land.heights[farm];
            case 2: return state.hats[farm];
            case 3: return land.slow[farm];
            case 4: return state.waiting[farm];
            case 5: return state.rests[farm];
            case 6: return state.nods[farm];
            case 7: return state.asleep >> farm & 1;
            case 8: return land.shepherds >> farm & 1;
            case 9: return sight.of(farm, mistNow());
            default: throw new NoSuchElementException("no such value of a farm");
        }
    }

    private int mistNow() {
        return land.mistOf(book.state.tick);
    }

    private Views viewsNow() {
        views.take(sight, mistNow());
        return views;
    }

    private void needFarm(int farm) {
        if (farm < 0 || farm >= land.farms || farm >= MOST_FARMS) {
            throw new NoSuchElementException("no such farm");
        }
    }

    private void needFarms(int farm, int other) {
        needFarm(farm);
        needFarm(other);
    }

    private static void needWhat(int what, int most) {
        if (what < 0 || what > most) {
            throw new NoSuchElementException("no such question");
        }
    }

    private static void needWithin(int number, int least, int most) {
        if (number < least || number > most) {
            throw new IllegalArgumentException("out of bounds");
        }
    }

    // ---- Acts

    public int ticks(int many) {
        if (many < 1 || many > MOST_TICKS || book.state.tick + many > LAST_TICK) {
            return refuseAct();
        }
        book.acts.keep(book.state);
        course.start(book.state);
        for (int tick = 0; tick < many; tick++) {
            course.go();
        }
        book.state.copy(course.state);
        return book.state.tick;
    }

    public boolean begin(int farm) throws NoSuchElementException {
        needFarm(farm);
        if (book.state.sleeps(farm)) {
            refuseAct();
            return false;
        }
        book.acts.keep(book.state);
        book.state.startNod(farm);
        return true;
    }

    public boolean sleep(int farm, boolean is) throws NoSuchElementException {
        needFarm(farm);
        if (book.state.sleeps(farm) == is) {
            refuseAct();
            return false;
        }
        book.acts.keep(book.state);
        book.state.turnSleep(farm);
        return true;
    }

    public int hat(int farm, int hat) throws NoSuchElementException {
        needFarm(farm);
        if (hat < 0 || hat > TALLEST_HAT) {
            return refuseAct();
        }
        book.acts.keep(book.state);
        int old = book.state.hats[farm];
        book.state.hats[farm] = hat;
        sight.build(book.state.hats);
        return old;
    }

    public int hush() {
        int who = book.state.whoWaits();
        if (who == 0) {
            return refuseAct();
        }
        book.acts.keep(book.state);
        book.state.quiet();
        return who;
    }

    public int undo() {
        if (!book.acts.takeBack(book.state)) {
            return NONE;
        }
        sight.build(book.state.hats);
        return book.acts.size;
    }

    private int refuseAct() {
        book.refused[REFUSED_ACTS]++;
        return NONE;
    }

    // ---- If only ticks go by

    public int nodding(int k) throws IllegalArgumentException {
        needWithin(k, 1, FAR_AHEAD);
        course.start(book.state);
        int who = 0;
        for (int tick = 1; tick <= k; tick++) {
            who = course.go();
        }
        return who;
    }

    public int then(int farm, int ticks, int what) throws NoSuchElementException, IllegalArgumentException {
        needFarm(farm);
        needWhat(what, 1);
        needWithin(ticks, 0, FAR_AHEAD);
        course.start(book.state);
        for (int tick = 1; tick <= ticks; tick++) {
            course.go();
        }
        return what == 0 ? course.state.waiting[farm] : course.state.nods[farm];
    }

    public int first(int farm) throws NoSuchElementException {
        needFarm(farm);
        course.start(book.state);
        return course.firstNod(farm);
    }

    public int still() {
        course.start(book.state);
        for (int tick = 0; tick <= FAR_AHEAD; tick++) {
            if (course.state.whoWaits() == 0) {
                return tick;
            }
            course.go();
        }
        return NONE;
    }

    public int loudest(int ticks) throws IllegalArgumentException {
        needWithin(ticks, 1, FAR_AHEAD);
        course.start(book.state);
        int most = -1;
        int loud = NONE;
        for (int tick = 1; tick <= ticks; tick++) {
            int many = Integer.bitCount(course.go());
            if (many > most) {
                most = many;
                loud = tick;
            }
        }
        return loud;
    }

    public int oftenest(int ticks) throws IllegalArgumentException {
        needWithin(ticks, 1, FAR_AHEAD);
        course.start(book.state);
        for (int tick = 1; tick <= ticks; tick++) {
            course.go();
        }
        int most = -1;
        int who = NONE;
        for (int farm = 0; farm < land.farms; farm++) {
            if (course.times[farm] > most) {
                most = course.times[farm];
                who = farm;
            }
        }
        return who;
    }

    public int crowd(int ticks, int what) throws NoSuchElementException, IllegalArgumentException {
        needWhat(what, 1);
        needWithin(ticks, 1, FAR_AHEAD);
        course.start(book.state);
        int most = 0;
        int silent = 0;
        for (int tick = 1; tick <= ticks; tick++) {
            int many = Integer.bitCount(course.go());
            most = Math.max(most, many);
            silent += many == 0 ? 1 : 0;
        }
        return what == 0 ? most : silent;
    }

    // ---- Were all hushed, and only some began

    public int reaches(int farm, int other) throws NoSuchElementException {
        needFarms(farm, other);
        course.startAnew(book.state, 1 << farm);
        return course.firstNod(other);
    }

    public int reached(int farm, int ticks) throws NoSuchElementException, IllegalArgumentException {
        needFarm(farm);
        needWithin(ticks, 0, FAR_AHEAD);
        return reachedBy(1 << farm, ticks);
    }

    public int through(int farm, int other) throws NoSuchElementException {
        needFarms(farm, other);
        course.startAnew(book.state, 1 << farm);
        if (course.firstNod(other) == NONE) {
            return 0;
        }
        int needed = 0;
        for (int third = 0; third < land.farms; third++) {
            if (third != farm && third != other && !reachesWithout(farm, other, third)) {
                needed |= 1 << third;
            }
        }
        return needed;
    }

    private boolean reachesWithout(int farm, int other, int third) {
        course.startAnew(book.state, 1 << farm);
        course.state.asleep |= 1 << third;
        return course.firstNod(other) != NONE;
    }

    public int best(int ticks) throws IllegalArgumentException {
        needWithin(ticks, 1, FAR_AHEAD);
        int most = -1;
        int who = NONE;
        for (int farm = 0; farm < land.farms; farm++) {
            int many = Integer.bitCount(reachedBy(1 << farm, ticks));
            if (many > most) {
                most = many;
                who = farm;
            }
        }
        return who;
    }

    public int toBegin(int ticks) throws IllegalArgumentException {
        needWithin(ticks, 1, FAR_AHEAD);
        int awake = land.all() & ~book.state.asleep;
        for (int size = 0; size <= land.farms; size++) {
            for (int who = 0; who <= awake; who++) {
                if ((who & ~awake) == 0 && Integer.bitCount(who) == size && reachedBy(who, ticks) == awake) {
                    return who;
                }
            }
        }
        return NONE;
    }

    private int reachedBy(int who, int ticks) {
        course.startAnew(book.state, who);
        return course.gather(ticks);
    }

    // ---- As the mist of the tick that comes lets one see

    public int way(int farm, int other) throws NoSuchElementException {
        needFarms(farm, other);
        return viewsNow().steps(farm, other);
    }

    public int toHat(int farm, int other) throws NoSuchElementException {
        needFarms(farm, other);
        if (farm == other || !trial.isNear(farm, other, mistNow())) {
            return NONE;
        }
        trial.takeTops(book.state.hats);
        for (int hat = 0; hat <= TALLEST_HAT; hat++) {
            trial.tops[farm] = land.heights[farm] + hat;
            if (trial.inTheWay(farm, other) == 0) {
                return hat;
            }
        }
        return NONE;
    }

    public int between(int farm, int other) throws NoSuchElementException {
        needFarms(farm, other);
        return sight.inTheWay(farm, other);
    }

    public int line() {
        return viewsNow().longestLine();
    }

    public int hidden(int farm) throws NoSuchElementException {
        needFarm(farm);
        return land.all() & ~(1 << farm) & ~sight.of(farm, mistNow());
    }

    // ---- What was seen

    public int see(int farm, int k, boolean nods) throws NoSuchElementException {
        needFarm(farm);
        if (k < 1 || k > SEEN_AHEAD || book.seen.size >= MOST_SEEN) {
            book.refused[REFUSED_SEEN]++;
            return NONE;
        }
        book.seen.add(farm, k, nods);
        return book.seen.size;
    }

    public int begun(int what) throws NoSuchElementException {
        needWhat(what, 2);
        if (what == 2) {
            return isSoBy(NONE, 0) ? 1 : 0;
        }
        int who = whoMayHaveBegun();
        if (what == 0) {
            return Integer.bitCount(who);
        }
        return leastOf(who);
    }

    public int look(int what) throws NoSuchElementException {
        needWhat(what, 1);
        int who = whoMayHaveBegun();
        int most = 0;
        int where = NONE;
        for (int k = 1; k <= SEEN_AHEAD; k++) {
            int many = howManyUnlike(who, k);
            if (many > most) {
                most = many;
                where = k;
            }
        }
        return what == 0 ? where : most;
    }

    public void forget() {
        book.seen.clear();
    }

    /** Leaves in foreseen, from farm * SEEN_AHEAD on, who nods in each tick if that farm begins. */
    private int whoMayHaveBegun() {
        int who = 0;
        for (int farm = 0; farm < land.farms; farm++) {
            if (!book.state.sleeps(farm) && isSoBy(farm, farm * SEEN_AHEAD)) {
                who |= 1 << farm;
            }
        }
        return who;
    }

    private int leastOf(int who) {
        for (int farm = 0; farm < land.farms; farm++) {
            if ((who >> farm & 1) == 1) {
                return farm;
            }
        }
        return NONE;
    }

    private boolean isSoBy(int farm, int at) {
        course.start(book.state);
        if (farm != NONE) {
            course.state.startNod(farm);
        }
        for (int k = 0; k < SEEN_AHEAD && at + k < foreseen.length; k++) {
            foreseen[at + k] = course.go();
        }
        return book.seen.agrees(foreseen, at);
    }

    private int howManyUnlike(int who, int k) {
        int many = 0;
        for (int farm = 0; farm < land.farms; farm++) {
            if ((who >> farm & 1) == 1 && !isForeseenBefore(who, farm, k)) {
                many++;
            }
        }
        return many;
    }

    private boolean isForeseenBefore(int who, int farm, int k) {
        int nods = foreseen[farm * SEEN_AHEAD + k - 1];
        for (int other = 0; other < farm; other++) {
            if ((who >> other & 1) == 1 && foreseen[other * SEEN_AHEAD + k - 1] == nods) {
                return true;
            }
        }
        return false;
    }

    // ---- Mist, a game, years

    public int byMist(int farm, int ticks, int tenths) throws NoSuchElementException, IllegalArgumentException {
        needFarm(farm);
        needWithin(ticks, 1, 5);
        needWithin(tenths, 0, 10);
        int sum = 0;
        for (int misty = 0; misty < 1 << ticks; misty++) {
            course.start(book.state);
            int weight = 1;
            for (int tick = 0; tick < ticks; tick++) {
                boolean thick = (misty >> tick & 1) == 1;
                weight *= thick ? tenths : 10 - tenths;
                course.step(sight, thick ? THICKEST_MIST : 0);
            }
            if (course.state.nods[farm] > book.state.nods[farm]) {
                sum += weight;
            }
        }
        return sum;
    }

    public int game(int farm, int other, int what) throws NoSuchElementException, IllegalArgumentException {
        needFarms(farm, other);
        needWhat(what, 1);
        if (farm == other) {
            throw new IllegalArgumentException("both are one");
        }
        if (book.state.sleeps(farm) || book.state.sleeps(other)) {
            return NONE;
        }
        playAll(farm, other);
        int many = 0;
        int earliest = NONE;
        for (int couple = 3; couple >= 0; couple--) {
            if (gains[couple] >= gains[couple ^ 2] && gains[4 + couple] >= gains[4 + (couple ^ 1)]) {
                many++;
                earliest = 10 * (couple >> 1) + (couple & 1);
            }
        }
        return what == 0 ? many : earliest;
    }

    /** A couple is 2 by the first one's choice and the other one's; gains has the first one's, then the other's. */
    private void playAll(int farm, int other) {
        for (int couple = 0; couple < 4; couple++) {
            course.start(book.state);
            if (couple >> 1 == 1) {
                course.state.startNod(farm);
            }
            if ((couple & 1) == 1) {
                course.state.startNod(other);
            }
            int who = 0;
            for (int tick = 0; tick < GAME_TICKS; tick++) {
                who |= course.go();
            }
            gains[couple] = gain(farm, who, couple >> 1);
            gains[4 + couple] = gain(other, who, couple & 1);
        }
    }

    private int gain(int farm, int who, int began) {
        return Integer.bitCount(who & ~(1 << farm)) - 2 * began - course.times[farm];
    }

    public int years(int seed, int n, int what) throws NoSuchElementException, IllegalArgumentException {
        needWhat(what, 2);
        needWithin(n, 0, FAR_AHEAD);
        course.start(book.state);
        course.seed = seed;
        trial.build(book.state.hats);
        int who = 0;
        int many = 0;
        for (int year = 0; year < n; year++) {
            happen();
            int nodded = course.step(trial, course.draw(THICKEST_MIST + 1));
            who |= nodded;
            many += Integer.bitCount(nodded);
        }
        if (what == 0) {
            return many;
        }
        return what == 1 ? course.state.asleep : land.farms - Integer.bitCount(who);
    }

    private void happen() {
        int event = course.draw(6);
        if (event > 2 || land.farms == 0) {
            return;
        }
        int farm = course.draw(land.farms);
        if (farm >= MOST_FARMS) {
            return;
        }
        if (event == 0) {
            course.state.startNod(farm);
        } else if (event == 1) {
            course.state.turnSleep(farm);
        } else {
            course.state.hats[farm] = course.draw(TALLEST_HAT + 1);
            trial.build(course.state.hats);
        }
    }

    // ---- The image

    public void image() {
        kept.copy(book);
        keeps = true;
    }

    public boolean restore() {
        if (!keeps) {
            return false;
        }
        book.copy(kept);
        sight.build(book.state.hats);
        return true;
    }

    /** What the text tells; it stays until the next text. */
    private static final class Upland {
        int farms = 0;
        final int[] x = new int[MOST_FARMS];
        final int[] heights = new int[MOST_FARMS];
        final int[] hats = new int[MOST_FARMS];
        final int[] slow = new int[MOST_FARMS];
        int shepherds = 0;
        int sight = 60;
        int rest = 3;
        int mists = 0;
        final int[] mist = new int[MOST_MISTS];
        final Rule rule = new Rule();

        void clear() {
            farms = 0;
            shepherds = 0;
            sight = 60;
            rest = 3;
            mists = 0;
            rule.length = 0;
        }

        void copy(Upland other) {
            farms = other.farms;
            shepherds = other.shepherds;
            sight = other.sight;
            rest = other.rest;
            mists = other.mists;
            copyFarms(other.x, x);
            copyFarms(other.heights, heights);
            copyFarms(other.hats, hats);
            copyFarms(other.slow, slow);
            System.arraycopy(other.mist, 0, mist, 0, MOST_MISTS);
            rule.copy(other.rule);
        }

        int all() {
            return (1 << farms) - 1;
        }

        int mistOf(int tick) {
            if (mists < 1 || mists > MOST_MISTS || tick < 0) {
                return 0;
            }
            return mist[tick % mists];
        }

        int away(int farm, int other) {
            return Math.abs(x[farm] - x[other]);
        }

        boolean isTaken(int place) {
            for (int farm = 0; farm < farms; farm++) {
                if (x[farm] == place) {
                    return true;
                }
            }
            return false;
        }
    }

    private static void copyFarms(int[] from, int[] to) {
        System.arraycopy(from, 0, to, 0, MOST_FARMS);
    }

    /** MINDS, its parts ahead of their operator: a number is itself, all else is below 0. */
    private static final class Rule {
        static final int SEEN = -1;
        static final int FAR = -2;
        static final int UP = -3;
        static final int NODS = -4;
        static final int MIST = -5;
        static final int TICK = -6;
        static final int NOT = -7;
        static final int OR = -8;
        static final int AND = -9;
        static final int LESS = -10;
        static final int EQUAL = -11;
        static final int PLUS = -12;
        static final int MINUS = -13;
        static final int TIMES = -14;
        static final int OVER = -15;
        static final int VALUES = 6;
        // Six expressions within each other, five operators open in each, and one part.
        static final int STACK = 6 * 5 + 1;

        int length = 0;
        final int[] code = new int[MOST_BYTES];
        private final int[] stack = new int[STACK];

        void copy(Rule other) {
            length = other.length;
            System.arraycopy(other.code, 0, code, 0, MOST_BYTES);
        }

        void add(int item) {
            if (length < code.length) {
                code[length] = item;
                length++;
            }
        }

        int answer(int[] values) {
            int top = 0;
            for (int i = 0; i < length; i++) {
                int item = code[i];
                if (item >= -VALUES) {
                    if (top < STACK) {
                        stack[top] = item >= 0 ? item : values[-1 - item];
                        top++;
                    }
                } else if (item == NOT) {
                    if (top > 0) {
                        stack[top - 1] = stack[top - 1] == 0 ? 1 : 0;
                    }
                } else if (top > 1) {
                    top--;
                    stack[top - 1] = joined(item, stack[top - 1], stack[top]);
                }
            }
            return stack[0];
        }

        private static int joined(int operator, int left, int right) {
            switch (operator) {
                case OR: return left != 0 || right != 0 ? 1 : 0;
                case AND: return left != 0 && right != 0 ? 1 : 0;
                case LESS: return left < right ? 1 : 0;
                case EQUAL: return left == right ? 1 : 0;
                case PLUS: return left + right;
                case MINUS: return left - right;
                case TIMES: return left * right;
                default: return right == 0 ? 0 : left / right;
            }
        }
    }

    private enum Token {
        END("", 0), BAD("", 0), NUMBER("", 0), WORD("", 0),
        SEMICOLON(";", 0), OPEN("(", 0), CLOSE(")", 0),
        PLUS("+", Rule.PLUS), MINUS("-", Rule.MINUS), TIMES("*", Rule.TIMES), OVER("/", Rule.OVER),
        LESS("<", Rule.LESS), EQUAL("=", Rule.EQUAL),
        FARM("farm", 0), SHEPHERD("shepherd", 0), SIGHT("sight", 0), REST("rest", 0), MINDS("minds", 0),
        OR("or", Rule.OR), AND("and", Rule.AND), NOT("not", Rule.NOT),
        MIST("mist", Rule.MIST), SEEN("seen", Rule.SEEN), FAR("far", Rule.FAR), UP("up", Rule.UP),
        NODS("nods", Rule.NODS), TICK("tick", Rule.TICK);

        private static final Token[] ALL = values();

        final String text;
        final int item;

        Token(String text, int item) {
            this.text = text;
            this.item = item;
        }

        boolean isValue() {
            return item < 0 && item >= -Rule.VALUES;
        }

        boolean stands(byte[] tape, int from, int to) {
            if (text.isEmpty() || text.length() != to - from) {
                return false;
            }
            for (int i = from; i < to && i < tape.length; i++) {
                if ((tape[i] & 255) != text.charAt(i - from)) {
                    return false;
                }
            }
            return true;
        }
    }

    /** Reads a text into a draft, token by token; where one is a fault, all that is open ends with false. */
    private static final class Reader {
        private static final int CANNOT_STAND = 1;
        private static final int TOO_MUCH = 2;
        private static final int NO_VALUE = 3;
        private static final int TAKEN = 4;
        private static final int TOLD_TWICE = 5;
        private static final int MOST_WITHIN = 6;
        private static final int MOST_NOTS = 6;
        private static final int MOST_DIGITS = 4;

        final Upland draft = new Upland();
        int wrong = 0;
        int place = NONE;
        private final byte[] tape;
        private int length = 0;
        private Token token = Token.END;
        private int start = 0;
        private int end = 0;
        private boolean isWord = false;
        private int digits = 0;
        private int number = 0;
        private boolean sightTold = false;
        private boolean restTold = false;

        Reader(byte[] tape) {
            this.tape = tape;
        }

        boolean reads(int n) {
            draft.clear();
            wrong = 0;
            place = NONE;
            sightTold = false;
            restTold = false;
            length = Math.min(n, tape.length);
            end = 0;
            advance();
            for (int lines = 0; lines < MOST_BYTES && token != Token.END; lines++) {
                if (!readsLine()) {
                    return false;
                }
            }
            return true;
        }

        private boolean fails(int fault) {
            wrong = fault;
            place = start;
            return false;
        }

        private void advance() {
            start = end;
            while (start < length && (tape[start] == 32 || tape[start] == 10)) {
                start++;
            }
            end = start;
            isWord = start < length && isLetter(start);
            if (start >= length) {
                token = Token.END;
            } else if (isDigit(start)) {
                takeNumber();
            } else {
                takeName();
            }
        }

        private boolean isLetter(int at) {
            return tape[at] >= 'a' && tape[at] <= 'z';
        }

        private boolean isDigit(int at) {
            return tape[at] >= '0' && tape[at] <= '9';
        }

        private void takeName() {
            end = start + 1;
            while (isWord && end < length && isLetter(end)) {
                end++;
            }
            token = isWord ? Token.WORD : Token.BAD;
            for (int i = 0; i < Token.ALL.length; i++) {
                if (Token.ALL[i].stands(tape, start, end)) {
                    token = Token.ALL[i];
                }
            }
        }

        private void takeNumber() {
            digits = 0;
            number = 0;
            while (end < length && isDigit(end)) {
                digits++;
                if (digits <= MOST_DIGITS) {
                    number = 10 * number + tape[end] - '0';
                }
                end++;
            }
            token = Token.NUMBER;
        }

        private boolean readsLine() {
            if (token == Token.FARM || token == Token.SHEPHERD) {
                return readsFarm(token == Token.SHEPHERD ? 1 : 0);
            }
            if (token == Token.MIST) {
                return readsMist();
            }
            if (token == Token.SIGHT) {
                return readsSight();
            }
            if (token == Token.REST) {
                return readsRest();
            }
            return token == Token.MINDS ? readsMinds() : fails(CANNOT_STAND);
        }

        private boolean readsFarm(int shepherd) {
            int farm = draft.farms;
            if (farm >= MOST_FARMS) {
                return fails(TOO_MUCH);
            }
            advance();
            if (!isNumber(0, 99)) {
                return false;
            }
            if (draft.isTaken(number)) {
                return fails(TAKEN);
            }
            draft.shepherds |= shepherd << farm;
            draft.farms++;
            return takesNumber(draft.x, farm, 0, 99)
                && takesNumber(draft.heights, farm, 0, 99)
                && takesNumber(draft.hats, farm, 0, TALLEST_HAT)
                && takesNumber(draft.slow, farm, 1, 5)
                && endsLine();
        }

        private boolean readsMist() {
            if (draft.mists > 0) {
                return fails(TOLD_TWICE);
            }
            advance();
            if (!isNumber(0, 9)) {
                return false;
            }
            for (int k = 0; k < MOST_MISTS && token == Token.NUMBER; k++) {
                if (!takesNumber(draft.mist, k, 0, 9)) {
                    return false;
                }
                draft.mists = k + 1;
            }
            return token == Token.NUMBER ? fails(TOO_MUCH) : endsLine();
        }

        private boolean readsSight() {
            if (sightTold) {
                return fails(TOLD_TWICE);
            }
            sightTold = true;
            advance();
            if (!isNumber(1, 99)) {
                return false;
            }
            draft.sight = number;
            advance();
            return endsLine();
        }

        private boolean readsRest() {
            if (restTold) {
                return fails(TOLD_TWICE);
            }
            restTold = true;
            advance();
            if (!isNumber(0, 9)) {
                return false;
            }
            draft.rest = number;
            advance();
            return endsLine();
        }

        private boolean readsMinds() {
            if (draft.rule.length > 0) {
                return fails(TOLD_TWICE);
            }
            advance();
            return readsExpression(0) && endsLine();
        }

        private boolean endsLine() {
            if (token != Token.SEMICOLON) {
                return fails(CANNOT_STAND);
            }
            advance();
            return true;
        }

        private boolean isNumber(int least, int most) {
            if (token != Token.NUMBER) {
                return fails(CANNOT_STAND);
            }
            if (digits > MOST_DIGITS || number < least || number > most) {
                return fails(TOO_MUCH);
            }
            return true;
        }

        private boolean takesNumber(int[] row, int at, int least, int most) {
            if (!isNumber(least, most)) {
                return false;
            }
            if (at >= 0 && at < row.length) {
                row[at] = number;
            }
            advance();
            return true;
        }

        private boolean readsExpression(int within) {
            if (within >= MOST_WITHIN) {
                boolean canStand = isWord || token == Token.NUMBER || token == Token.OPEN;
                return fails(canStand ? TOO_MUCH : CANNOT_STAND);
            }
            boolean fine = readsAnd(within);
            for (int i = 0; i < length && fine && token == Token.OR; i++) {
                advance();
                fine = readsAnd(within);
                draft.rule.add(Rule.OR);
            }
            return fine;
        }

        private boolean readsAnd(int within) {
            boolean fine = readsNot(within);
            for (int i = 0; i < length && fine && token == Token.AND; i++) {
                advance();
                fine = readsNot(within);
                draft.rule.add(Rule.AND);
            }
            return fine;
        }

        private boolean readsNot(int within) {
            int nots = 0;
            while (token == Token.NOT && nots < MOST_NOTS) {
                nots++;
                advance();
            }
            if (token == Token.NOT && nots == MOST_NOTS) {
                return fails(TOO_MUCH);
            }
            boolean fine = readsTest(within);
            for (int i = 0; i < nots; i++) {
                draft.rule.add(Rule.NOT);
            }
            return fine;
        }

        private boolean readsTest(int within) {
            if (!readsSum(within)) {
                return false;
            }
            if (token != Token.LESS && token != Token.EQUAL) {
                return true;
            }
            int operator = token.item;
            advance();
            boolean fine = readsSum(within);
            draft.rule.add(operator);
            return fine;
        }

        private boolean readsSum(int within) {
            boolean fine = readsProduct(within);
            for (int i = 0; i < length && fine && (token == Token.PLUS || token == Token.MINUS); i++) {
                int operator = token.item;
                advance();
                fine = readsProduct(within);
                draft.rule.add(operator);
            }
            return fine;
        }

        private boolean readsProduct(int within) {
            boolean fine = readsPart(within);
            for (int i = 0; i < length && fine && (token == Token.TIMES || token == Token.OVER); i++) {
                int operator = token.item;
                advance();
                fine = readsPart(within);
                draft.rule.add(operator);
            }
            return fine;
        }

        private boolean readsPart(int within) {
            if (token == Token.OPEN) {
                return readsParenthesis(within);
            }
            if (isWord && !token.isValue()) {
                return fails(NO_VALUE);
            }
            if (!isWord && !isNumber(0, 9999)) {
                return false;
            }
            draft.rule.add(isWord ? token.item : number);
            advance();
            return true;
        }

        private boolean readsParenthesis(int within) {
            advance();
            if (!readsExpression(within + 1)) {
                return false;
            }
            if (token != Token.CLOSE) {
                return fails(CANNOT_STAND);
            }
            advance();
            return true;
        }
    }

    /** All that ticks and acts change. */
    private static final class State {
        static final int SIZE = 2 + 4 * MOST_FARMS;

        int tick = 0;
        int asleep = 0;
        final int[] waiting = new int[MOST_FARMS];
        final int[] rests = new int[MOST_FARMS];
        final int[] nods = new int[MOST_FARMS];
        final int[] hats = new int[MOST_FARMS];

        void settle(Upland land) {
            tick = 0;
            asleep = 0;
            quiet();
            for (int farm = 0; farm < MOST_FARMS; farm++) {
                rests[farm] = 0;
                nods[farm] = 0;
                hats[farm] = land.hats[farm];
            }
        }

        void copy(State other) {
            tick = other.tick;
            asleep = other.asleep;
            copyFarms(other.waiting, waiting);
            copyFarms(other.rests, rests);
            copyFarms(other.nods, nods);
            copyFarms(other.hats, hats);
        }

        boolean sleeps(int farm) {
            return (asleep >> farm & 1) == 1;
        }

        int whoWaits() {
            int who = 0;
            for (int farm = 0; farm < MOST_FARMS; farm++) {
                if (waiting[farm] > 0) {
                    who |= 1 << farm;
                }
            }
            return who;
        }

        void quiet() {
            for (int farm = 0; farm < MOST_FARMS; farm++) {
                waiting[farm] = 0;
            }
        }

        void startNod(int farm) {
            if (!sleeps(farm)) {
                waiting[farm] = 1;
            }
        }

        void turnSleep(int farm) {
            asleep ^= 1 << farm;
            waiting[farm] = 0;
        }

        void store(int[] row, int at) {
            if (at < 0 || at > row.length - SIZE) {
                return;
            }
            row[at] = tick;
            row[at + 1] = asleep;
            for (int farm = 0; farm < MOST_FARMS; farm++) {
                int cell = at + 2 + 4 * farm;
                row[cell] = waiting[farm];
                row[cell + 1] = rests[farm];
                row[cell + 2] = nods[farm];
                row[cell + 3] = hats[farm];
            }
        }

        void load(int[] row, int at) {
            if (at < 0 || at > row.length - SIZE) {
                return;
            }
            tick = row[at];
            asleep = row[at + 1];
            for (int farm = 0; farm < MOST_FARMS; farm++) {
                int cell = at + 2 + 4 * farm;
                waiting[farm] = row[cell];
                rests[farm] = row[cell + 1];
                nods[farm] = row[cell + 2];
                hats[farm] = row[cell + 3];
            }
        }
    }

    /** The state ahead of each act that is kept, in a ring, so that the oldest one gives way. */
    private static final class Acts {
        int size = 0;
        private int next = 0;
        private final int[] row = new int[MOST_ACTS * State.SIZE];

        void clear() {
            size = 0;
            next = 0;
        }

        void copy(Acts other) {
            size = other.size;
            next = other.next;
            System.arraycopy(other.row, 0, row, 0, MOST_ACTS * State.SIZE);
        }

        void keep(State state) {
            state.store(row, next * State.SIZE);
            next = (next + 1) % MOST_ACTS;
            size = Math.min(size + 1, MOST_ACTS);
        }

        boolean takeBack(State state) {
            if (size == 0) {
                return false;
            }
            next = (next + MOST_ACTS - 1) % MOST_ACTS;
            size--;
            state.load(row, next * State.SIZE);
            return true;
        }
    }

    private static final class Seen {
        int size = 0;
        private final int[] farms = new int[MOST_SEEN];
        private final int[] ticks = new int[MOST_SEEN];
        private final int[] nods = new int[MOST_SEEN];

        void clear() {
            size = 0;
        }

        void copy(Seen other) {
            size = other.size;
            System.arraycopy(other.farms, 0, farms, 0, MOST_SEEN);
            System.arraycopy(other.ticks, 0, ticks, 0, MOST_SEEN);
            System.arraycopy(other.nods, 0, nods, 0, MOST_SEEN);
        }

        void add(int farm, int k, boolean nodded) {
            if (size < MOST_SEEN) {
                farms[size] = farm;
                ticks[size] = k;
                nods[size] = nodded ? 1 : 0;
                size++;
            }
        }

        /** The row has, from its place at on, who nods in the first tick, the second .. */
        boolean agrees(int[] row, int at) {
            for (int i = 0; i < size; i++) {
                int cell = at + ticks[i] - 1;
                if (cell < 0 || cell >= row.length || (row[cell] >> farms[i] & 1) != nods[i]) {
                    return false;
                }
            }
            return true;
        }
    }

    /** All that an image keeps. */
    private static final class Book {
        final State state = new State();
        final Acts acts = new Acts();
        final Seen seen = new Seen();
        final int[] refused = new int[3];

        void copy(Book other) {
            state.copy(other.state);
            acts.copy(other.acts);
            seen.copy(other.seen);
            System.arraycopy(other.refused, 0, refused, 0, 3);
        }
    }

    /** Who is in sight of whom by hats, worked out for every mist at once, as ticks ask for it most often. */
    private static final class Sight {
        final int[] tops = new int[MOST_FARMS];
        private final Upland land;
        private final int[] rows = new int[(THICKEST_MIST + 1) * MOST_FARMS];

        Sight(Upland land) {
            this.land = land;
        }

        void takeTops(int[] hats) {
            for (int farm = 0; farm < MOST_FARMS && farm < hats.length; farm++) {
                tops[farm] = land.heights[farm] + hats[farm];
            }
        }

        void build(int[] hats) {
            takeTops(hats);
            for (int i = 0; i < rows.length; i++) {
                rows[i] = 0;
            }
            for (int farm = 0; farm < land.farms; farm++) {
                for (int other = 0; other < farm; other++) {
                    if (inTheWay(farm, other) == 0) {
                        mark(farm, other);
                    }
                }
            }
        }

        private void mark(int farm, int other) {
            for (int mist = 0; mist <= THICKEST_MIST && isNear(farm, other, mist); mist++) {
                rows[mist * MOST_FARMS + farm] |= 1 << other;
                rows[mist * MOST_FARMS + other] |= 1 << farm;
            }
        }

        boolean isNear(int farm, int other, int mist) {
            return land.away(farm, other) <= land.sight - 9 * mist;
        }

        int of(int farm, int mist) {
            int cell = mist * MOST_FARMS + farm;
            return cell >= 0 && cell < rows.length ? rows[cell] : 0;
        }

        int inTheWay(int farm, int other) {
            int left = land.x[farm] < land.x[other] ? farm : other;
            int right = left == farm ? other : farm;
            int who = 0;
            for (int third = 0; third < land.farms; third++) {
                int fromLeft = land.x[third] - land.x[left];
                int toRight = land.x[right] - land.x[third];
                // Both sides of the line's height there, times the whole way, so that nothing is cut.
                if (fromLeft > 0 && toRight > 0
                        && tops[third] * (fromLeft + toRight) >= tops[left] * toRight + tops[right] * fromLeft) {
                    who |= 1 << third;
                }
            }
            return who;
        }
    }

    /** What can be said of who is in sight of whom, by one mist, whoever is asleep. */
    private static final class Views {
        private final Upland land;
        private final int[] sees = new int[MOST_FARMS];

        Views(Upland land) {
            this.land = land;
        }

        void take(Sight sight, int mist) {
            for (int farm = 0; farm < land.farms; farm++) {
                sees[farm] = sight.of(farm, mist);
            }
        }

        private int withNext(int who) {
            int all = who;
            for (int farm = 0; farm < land.farms; farm++) {
                if ((who >> farm & 1) == 1) {
                    all |= sees[farm];
                }
            }
            return all;
        }

        int steps(int farm, int other) {
            int who = 1 << farm;
            for (int steps = 0; steps < MOST_FARMS; steps++) {
                if ((who >> other & 1) == 1) {
                    return steps;
                }
                who = withNext(who);
            }
            return NONE;
        }

        int parts() {
            int parts = 0;
            int found = 0;
            for (int farm = 0; farm < land.farms; farm++) {
                if ((found >> farm & 1) == 0) {
                    parts++;
                    found |= partOf(farm);
                }
            }
            return parts;
        }

        private int partOf(int farm) {
            int who = 1 << farm;
            for (int steps = 0; steps < MOST_FARMS; steps++) {
                who = withNext(who);
            }
            return who;
        }

        int watch() {
            int all = land.all();
            for (int size = 0; size <= land.farms; size++) {
                for (int who = 0; who <= all; who++) {
                    if (Integer.bitCount(who) == size && withNext(who) == all) {
                        return who;
                    }
                }
            }
            return all;
        }

        int stare() {
            int farthest = 0;
            int couple = NONE;
            for (int farm = 0; farm < land.farms; farm++) {
                for (int other = farm + 1; other < land.farms; other++) {
                    if ((sees[farm] >> other & 1) == 1 && land.away(farm, other) > farthest) {
                        farthest = land.away(farm, other);
                        couple = 10 * farm + other;
                    }
                }
            }
            return couple;
        }

        int longestLine() {
            int longest = 0;
            int length = 0;
            int last = NONE;
            for (int i = 0; i < land.farms; i++) {
                int next = rightOf(last);
                if (next == NONE) {
                    return longest;
                }
                length = last != NONE && (sees[last] >> next & 1) == 1 ? length + 1 : 1;
                longest = Math.max(longest, length);
                last = next;
            }
            return longest;
        }

        private int rightOf(int farm) {
            int left = farm == NONE ? -1 : land.x[farm];
            int nearest = NONE;
            for (int other = 0; other < land.farms; other++) {
                if (land.x[other] > left && (nearest == NONE || land.x[other] < land.x[nearest])) {
                    nearest = other;
                }
            }
            return nearest;
        }
    }

    /** Ticks that go by on a state of its own. */
    private static final class Course {
        final State state = new State();
        /** How often each has nodded since the start. */
        final int[] times = new int[MOST_FARMS];
        int seed = 0;
        private final Upland land;
        private final Sight sight;
        private final int[] values = new int[Rule.VALUES];

        Course(Upland land, Sight sight) {
            this.land = land;
            this.sight = sight;
        }

        void start(State from) {
            state.copy(from);
            for (int farm = 0; farm < MOST_FARMS; farm++) {
                times[farm] = 0;
            }
        }

        /** All are hushed, nobody rests, and only these begin who aren't asleep. */
        void startAnew(State from, int who) {
            start(from);
            state.quiet();
            for (int farm = 0; farm < land.farms; farm++) {
                state.rests[farm] = 0;
                if ((who >> farm & 1) == 1) {
                    state.startNod(farm);
                }
            }
        }

        int go() {
            return step(sight, land.mistOf(state.tick));
        }

        int step(Sight by, int mist) {
            int nodded = nodAll();
            for (int farm = 0; farm < land.farms && nodded != 0; farm++) {
                int seen = by.of(farm, mist) & nodded;
                if (seen != 0 && isFree(farm, nodded) && minds(farm, seen, mist)) {
                    state.waiting[farm] = land.slow[farm];
                }
            }
            state.tick++;
            return nodded;
        }

        private int nodAll() {
            int nodded = 0;
            for (int farm = 0; farm < land.farms; farm++) {
                int waits = state.waiting[farm];
                if (waits == 1) {
                    state.rests[farm] = land.rest;
                    state.nods[farm] = Math.min(state.nods[farm] + 1, MOST_NODS);
                    times[farm]++;
                    nodded |= 1 << farm;
                }
                if (waits > 0) {
                    state.waiting[farm] = waits - 1;
                } else if (state.rests[farm] > 0) {
                    state.rests[farm]--;
                }
            }
            return nodded;
        }

        private boolean isFree(int farm, int nodded) {
            return state.waiting[farm] == 0 && state.rests[farm] == 0
                && ((state.asleep | nodded) >> farm & 1) == 0;
        }

        private boolean minds(int farm, int seen, int mist) {
            if (land.rule.length == 0 || (land.shepherds >> farm & 1) == 1) {
                return true;
            }
            int nearest = nearestOf(farm, seen);
            values[-1 - Rule.SEEN] = Integer.bitCount(seen);
            values[-1 - Rule.FAR] = land.away(farm, nearest);
            values[-1 - Rule.UP] = land.heights[nearest] - land.heights[farm];
            values[-1 - Rule.NODS] = state.nods[farm];
            values[-1 - Rule.MIST] = mist;
            values[-1 - Rule.TICK] = state.tick;
            return land.rule.answer(values) > 0;
        }

        private int nearestOf(int farm, int seen) {
            int nearest = farm;
            for (int other = 0; other < land.farms; other++) {
                boolean counts = (seen >> other & 1) == 1;
                if (counts && (nearest == farm || land.away(farm, other) < land.away(farm, nearest))) {
                    nearest = other;
                }
            }
            return nearest;
        }

        int firstNod(int farm) {
            for (int tick = 1; tick <= FAR_AHEAD; tick++) {
                if ((go() >> farm & 1) == 1) {
                    return tick;
                }
            }
            return NONE;
        }

        /** Who nods in so many ticks; it stops where nobody waits any more, or all who can have nodded. */
        int gather(int ticks) {
            int who = 0;
            int awake = land.all() & ~state.asleep;
            for (int tick = 0; tick < ticks && who != awake && state.whoWaits() != 0; tick++) {
                who |= go();
            }
            return who;
        }

        int draw(int n) {
            seed = seed * 1103515245 + 12345;
            return n < 1 ? 0 : (seed >>> 16 & 32767) % n;
        }
    }
}
