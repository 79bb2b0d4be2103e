import java.util.ArrayDeque;
import java.util.ArrayList;
import java.util.Arrays;
import java.util.Comparator;
import java.util.Deque;
import java.util.HashMap;
import java.util.HashSet;
import java.util.List;
import java.util.Map;
import java.util.NoSuchElementException;
import java.util.Set;
import java.util.function.IntPredicate;
import java.util.function.ToIntFunction;
import java.util.regex.Matcher;
import java.util.regex.Pattern;
import java.util.stream.IntStream;

/**
 * The document once more, in another way: whole worlds are copied, who is in sight of whom is worked out each time,
 * an expression is a tree, a fault an exception. Slow, so that it can be plain.
 */
final class Model {
    record Farm(int x, int height, int hat, int slow, boolean shepherd) {
    }

    record Saw(int farm, int k, boolean nods) {
    }

    record Token(String text, int at) {
        boolean isWord() {
            return !text.isEmpty() && text.charAt(0) >= 'a' && text.charAt(0) <= 'z';
        }

        boolean isNumber() {
            return !text.isEmpty() && text.charAt(0) >= '0' && text.charAt(0) <= '9';
        }
    }

    static final class Fault extends Exception {
        private static final long serialVersionUID = 1L;
        final int kind;
        final int at;

        Fault(int kind, Token token) {
            this.kind = kind;
            this.at = token.at();
        }
    }

    interface Expr {
        int value(Map<String, Integer> values);
    }

    static final class Land {
        final List<Farm> farms = new ArrayList<>();
        final List<Integer> mist = new ArrayList<>();
        int sight = 60;
        int rest = 3;
        Expr minds = null;
    }

    static final class World {
        int tick = 0;
        final int[] hat = new int[9];
        final int[] waiting = new int[9];
        final int[] rests = new int[9];
        final int[] nods = new int[9];
        final boolean[] asleep = new boolean[9];

        World copy() {
            World copy = new World();
            copy.tick = tick;
            for (int f = 0; f < 9; f++) {
                copy.hat[f] = hat[f];
                copy.waiting[f] = waiting[f];
                copy.rests[f] = rests[f];
                copy.nods[f] = nods[f];
                copy.asleep[f] = asleep[f];
            }
            return copy;
        }
    }

    record Image(World world, List<World> acts, List<Saw> saw, int[] status) {
    }

    private final StringBuilder tape = new StringBuilder();
    private int faultAt = -1;
    private Land land = new Land();
    private World world = new World();
    private List<World> acts = new ArrayList<>();
    private List<Saw> saw = new ArrayList<>();
    private int[] status = new int[3];
    private Image image = null;

    // ---- the text

    public int feed(int a, int b, int c, int d, int e) {
        if (tape.length() > 680) {
            return -1;
        }
        for (int number : new int[] {a, b, c, d, e}) {
            tape.append((char) (number >>> 24)).append((char) (number >>> 16 & 255));
            tape.append((char) (number >>> 8 & 255)).append((char) (number & 255));
        }
        return tape.length();
    }

    public int upland(int n) {
        if (n < 0 || n > tape.length()) {
            throw new IllegalArgumentException();
        }
        String text = tape.substring(0, n);
        tape.setLength(0);
        try {
            land = new Parser(text).land();
        } catch (Fault fault) {
            faultAt = fault.at;
            status[0]++;
            return fault.kind;
        }
        faultAt = -1;
        world = new World();
        for (int f = 0; f < land.farms.size(); f++) {
            world.hat[f] = land.farms.get(f).hat();
        }
        acts.clear();
        saw.clear();
        image = null;
        return 0;
    }

    static final class Parser {
        private static final Pattern TOKENS =
            Pattern.compile("[ \\n]+|[a-z]+|[0-9]+|.", Pattern.DOTALL);
        private final Deque<Token> left = new ArrayDeque<>();
        private final Land land = new Land();
        private final Set<String> told = new HashSet<>();

        Parser(String text) {
            Matcher matcher = TOKENS.matcher(text);
            while (matcher.find()) {
                if (!matcher.group().isBlank() || !matcher.group().matches("[ \\n]+")) {
                    left.add(new Token(matcher.group(), matcher.start()));
                }
            }
            left.add(new Token("", text.length()));
        }

        private Token next() {
            return left.peek();
        }

        private boolean nextIs(String... texts) {
            return Arrays.asList(texts).contains(next().text());
        }

        Land land() throws Fault {
            while (!nextIs("")) {
                Token head = left.poll();
                switch (head.text()) {
                    case "farm", "shepherd" -> farm(head);
                    case "mist", "sight", "rest", "minds" -> once(head);
                    default -> throw new Fault(1, head);
                }
                expect(";");
            }
            return land;
        }

        private void expect(String text) throws Fault {
            if (!nextIs(text)) {
                throw new Fault(1, next());
            }
            left.poll();
        }

        private int number(int least, int most) throws Fault {
            if (!next().isNumber()) {
                throw new Fault(1, next());
            }
            if (next().text().length() > 4) {
                throw new Fault(2, next());
            }
            int number = Integer.parseInt(next().text());
            if (number < least || number > most) {
                throw new Fault(2, next());
            }
            left.poll();
            return number;
        }

        private void farm(Token head) throws Fault {
            if (land.farms.size() == 9) {
                throw new Fault(2, head);
            }
            Token place = next();
            int x = number(0, 99);
            if (land.farms.stream().anyMatch(farm -> farm.x() == x)) {
                throw new Fault(4, place);
            }
            int height = number(0, 99);
            int hat = number(0, 20);
            int slow = number(1, 5);
            land.farms.add(new Farm(x, height, hat, slow, head.text().equals("shepherd")));
        }

        private void once(Token head) throws Fault {
            if (!told.add(head.text())) {
                throw new Fault(5, head);
            }
            switch (head.text()) {
                case "sight" -> land.sight = number(1, 99);
                case "rest" -> land.rest = number(0, 9);
                case "minds" -> land.minds = or(0);
                default -> {
                    land.mist.add(number(0, 9));
                    while (next().isNumber()) {
                        if (land.mist.size() == 8) {
                            throw new Fault(2, next());
                        }
                        land.mist.add(number(0, 9));
                    }
                }
            }
        }

        private Expr or(int within) throws Fault {
            if (within == 6 && (next().isWord() || next().isNumber() || nextIs("("))) {
                throw new Fault(2, next());
            }
            Expr all = and(within);
            while (nextIs("or")) {
                left.poll();
                Expr one = all;
                Expr other = and(within);
                all = values -> truth(one.value(values) != 0 | other.value(values) != 0);
            }
            return all;
        }

        private Expr and(int within) throws Fault {
            Expr all = not(within, 1);
            while (nextIs("and")) {
                left.poll();
                Expr one = all;
                Expr other = not(within, 1);
                all = values -> truth(one.value(values) != 0 & other.value(values) != 0);
            }
            return all;
        }

        private Expr not(int within, int which) throws Fault {
            if (!nextIs("not")) {
                return test(within);
            }
            if (which == 7) {
                throw new Fault(2, next());
            }
            left.poll();
            Expr what = not(within, which + 1);
            return values -> truth(what.value(values) == 0);
        }

        private Expr test(int within) throws Fault {
            Expr one = sum(within);
            if (nextIs("<")) {
                left.poll();
                Expr other = sum(within);
                return values -> truth(one.value(values) < other.value(values));
            }
            if (nextIs("=")) {
                left.poll();
                Expr other = sum(within);
                return values -> truth(one.value(values) == other.value(values));
            }
            return one;
        }

        private Expr sum(int within) throws Fault {
            Expr all = product(within);
            while (nextIs("+", "-")) {
                int sign = left.poll().text().equals("+") ? 1 : -1;
                Expr one = all;
                Expr other = product(within);
                all = values -> one.value(values) + sign * other.value(values);
            }
            return all;
        }

        private Expr product(int within) throws Fault {
            Expr all = part(within);
            while (nextIs("*", "/")) {
                boolean times = left.poll().text().equals("*");
                Expr one = all;
                Expr other = part(within);
                all = values -> times ? one.value(values) * other.value(values)
                    : over(one.value(values), other.value(values));
            }
            return all;
        }

        private Expr part(int within) throws Fault {
            if (nextIs("(")) {
                left.poll();
                Expr inner = or(within + 1);
                expect(")");
                return inner;
            }
            if (next().isNumber()) {
                int number = number(0, 9999);
                return values -> number;
            }
            if (nextIs("seen", "far", "up", "nods", "mist", "tick")) {
                String name = left.poll().text();
                return values -> values.get(name);
            }
            throw new Fault(next().isWord() ? 3 : 1, next());
        }

        private static int truth(boolean is) {
            return is ? 1 : 0;
        }

        private static int over(int one, int other) {
            return other == 0 ? 0 : (int) ((long) one / other);
        }
    }

    public int fault() {
        return faultAt;
    }

    // ---- sight and ticks

    private int size() {
        return land.farms.size();
    }

    private int mistAt(int tick) {
        return land.mist.isEmpty() ? 0 : land.mist.get(tick % land.mist.size());
    }

    private int away(int one, int other) {
        return Math.abs(land.farms.get(one).x() - land.farms.get(other).x());
    }

    private int top(World w, int f) {
        return land.farms.get(f).height() + w.hat[f];
    }

    private boolean isInTheWay(World w, int one, int other, int third) {
        if (away(one, third) + away(third, other) != away(one, other) || third == one || third == other) {
            return false;
        }
        // Rising from one to other: third isn't below, if its own rise is no less steep.
        return (top(w, third) - top(w, one)) * away(one, other) >= (top(w, other) - top(w, one)) * away(one, third);
    }

    private boolean inSight(World w, int one, int other, int mist) {
        return one != other && away(one, other) <= land.sight - 9 * mist
            && farmsWhere(third -> isInTheWay(w, one, other, third)).isEmpty();
    }

    private List<Integer> farmsWhere(IntPredicate is) {
        return IntStream.range(0, size()).filter(is).boxed().toList();
    }

    private static int bits(List<Integer> farms) {
        return farms.stream().mapToInt(f -> 1 << f).sum();
    }

    private List<Integer> tick(World w, int mist) {
        List<Integer> nodded = farmsWhere(f -> w.waiting[f] == 1);
        for (int f = 0; f < size(); f++) {
            if (nodded.contains(f)) {
                w.waiting[f] = 0;
                w.rests[f] = land.rest;
                w.nods[f] = Math.min(999, w.nods[f] + 1);
            } else if (w.waiting[f] > 1) {
                w.waiting[f]--;
            } else if (w.rests[f] > 0) {
                w.rests[f]--;
            }
        }
        World was = w.copy();
        for (int f = 0; f < size(); f++) {
            int me = f;
            List<Integer> seen = nodded.stream().filter(other -> inSight(was, me, other, mist)).toList();
            boolean can = was.waiting[f] == 0 && was.rests[f] == 0 && !was.asleep[f] && !nodded.contains(f);
            if (can && !seen.isEmpty() && minds(was, f, seen, mist)) {
                w.waiting[f] = land.farms.get(f).slow();
            }
        }
        w.tick++;
        return nodded;
    }

    private boolean minds(World w, int f, List<Integer> seen, int mist) {
        if (land.minds == null || land.farms.get(f).shepherd()) {
            return true;
        }
        int near = seen.stream().min(Comparator.comparingInt(other -> away(f, other) * 10 + other)).orElseThrow();
        Map<String, Integer> values = new HashMap<>();
        values.put("seen", seen.size());
        values.put("far", away(f, near));
        values.put("up", land.farms.get(near).height() - land.farms.get(f).height());
        values.put("nods", w.nods[f]);
        values.put("mist", mist);
        values.put("tick", w.tick);
        return land.minds.value(values) > 0;
    }

    private List<List<Integer>> run(World w, int ticks) {
        List<List<Integer>> rows = new ArrayList<>();
        for (int k = 0; k < ticks; k++) {
            rows.add(tick(w, mistAt(w.tick)));
        }
        return rows;
    }

    // ---- what is so

    private void need(boolean is) {
        if (!is) {
            throw new NoSuchElementException();
        }
    }

    private void within(int number, int least, int most) {
        if (number < least || number > most) {
            throw new IllegalArgumentException();
        }
    }

    private void needFarm(int farm) {
        need(farm >= 0 && farm < size());
    }

    public int count(int what) {
        need(what >= 0 && what <= 15);
        int[] counts = {size(), world.tick, mistAt(world.tick), land.sight, land.rest,
            bits(farmsWhere(f -> world.asleep[f])), bits(farmsWhere(f -> world.waiting[f] > 0)), parts(), watch(),
            stare(), acts.size(), saw.size(), tape.length(), status[0], status[1], status[2]};
        return counts[what];
    }

    private boolean seesNow(int one, int other) {
        return inSight(world, one, other, mistAt(world.tick));
    }

    private int parts() {
        int[] part = IntStream.range(0, size()).toArray();
        for (int one = 0; one < size(); one++) {
            for (int other = 0; other < size(); other++) {
                if (seesNow(one, other)) {
                    int from = part[one];
                    int to = part[other];
                    Arrays.setAll(part, f -> part[f] == from ? to : part[f]);
                }
            }
        }
        return (int) Arrays.stream(part).distinct().count();
    }

    /** The fewest, and of as few the least as bits, for which this holds; -1 if for none. */
    private int fewest(IntPredicate holds) {
        return IntStream.range(0, 1 << size()).filter(holds).boxed()
            .min(Comparator.<Integer>comparingInt(Integer::bitCount).thenComparingInt(set -> set)).orElse(-1);
    }

    private int watch() {
        boolean[][] sees = new boolean[size()][size()];
        for (int one = 0; one < size(); one++) {
            for (int other = 0; other < size(); other++) {
                sees[one][other] = one == other || seesNow(one, other);
            }
        }
        return fewest(set -> IntStream.range(0, size()).allMatch(
            f -> IntStream.range(0, size()).anyMatch(by -> (set >> by & 1) == 1 && sees[by][f])));
    }

    private int stare() {
        return IntStream.range(0, 100).filter(c -> c / 10 < c % 10 && c % 10 < size() && seesNow(c / 10, c % 10)).boxed()
            .min(Comparator.<Integer>comparingInt(c -> -away(c / 10, c % 10)).thenComparingInt(c -> c)).orElse(-1);
    }

    public int farm(int farm, int what) {
        needFarm(farm);
        need(what >= 0 && what <= 9);
        Farm f = land.farms.get(farm);
        return new int[] {f.x(), f.height(), world.hat[farm], f.slow(), world.waiting[farm], world.rests[farm],
            world.nods[farm], world.asleep[farm] ? 1 : 0, f.shepherd() ? 1 : 0,
            bits(farmsWhere(other -> seesNow(farm, other)))}[what];
    }

    // ---- acts

    private void keep() {
        acts.add(world.copy());
        if (acts.size() > 40) {
            acts.remove(0);
        }
    }

    public int ticks(int many) {
        if (many < 1 || many > 20 || world.tick + many > 999) {
            status[1]++;
            return -1;
        }
        keep();
        run(world, many);
        return world.tick;
    }

    public boolean begin(int farm) {
        needFarm(farm);
        if (world.asleep[farm]) {
            status[1]++;
            return false;
        }
        keep();
        world.waiting[farm] = 1;
        return true;
    }

    public boolean sleep(int farm, boolean is) {
        needFarm(farm);
        if (world.asleep[farm] == is) {
            status[1]++;
            return false;
        }
        keep();
        world.asleep[farm] = is;
        world.waiting[farm] = 0;
        return true;
    }

    public int hat(int farm, int hat) {
        needFarm(farm);
        if (hat < 0 || hat > 20) {
            status[1]++;
            return -1;
        }
        keep();
        int old = world.hat[farm];
        world.hat[farm] = hat;
        return old;
    }

    public int hush() {
        int who = count(6);
        if (who == 0) {
            status[1]++;
            return -1;
        }
        keep();
        Arrays.fill(world.waiting, 0);
        return who;
    }

    public int undo() {
        if (acts.isEmpty()) {
            return -1;
        }
        world = acts.remove(acts.size() - 1);
        return acts.size();
    }

    // ---- ahead

    public int nodding(int k) {
        within(k, 1, 60);
        return bits(run(world.copy(), k).get(k - 1));
    }

    public int then(int farm, int ticks, int what) {
        needFarm(farm);
        need(what == 0 || what == 1);
        within(ticks, 0, 60);
        World w = world.copy();
        run(w, ticks);
        return what == 0 ? w.waiting[farm] : w.nods[farm];
    }

    private static int firstIn(List<List<Integer>> rows, int farm) {
        for (int k = 1; k <= rows.size(); k++) {
            if (rows.get(k - 1).contains(farm)) {
                return k;
            }
        }
        return -1;
    }

    public int first(int farm) {
        needFarm(farm);
        return firstIn(run(world.copy(), 60), farm);
    }

    public int still() {
        World w = world.copy();
        for (int k = 0; k <= 60; k++) {
            if (Arrays.stream(w.waiting).allMatch(waits -> waits == 0)) {
                return k;
            }
            run(w, 1);
        }
        return -1;
    }

    private int most(int from, int to, ToIntFunction<Integer> many) {
        return IntStream.range(from, to).boxed()
            .min(Comparator.<Integer>comparingInt(i -> -many.applyAsInt(i)).thenComparingInt(i -> i)).orElse(-1);
    }

    public int loudest(int ticks) {
        within(ticks, 1, 60);
        List<List<Integer>> rows = run(world.copy(), ticks);
        return most(1, ticks + 1, k -> rows.get(k - 1).size());
    }

    public int oftenest(int ticks) {
        within(ticks, 1, 60);
        List<List<Integer>> rows = run(world.copy(), ticks);
        return most(0, size(), f -> (int) rows.stream().filter(row -> row.contains(f)).count());
    }

    public int crowd(int ticks, int what) {
        need(what == 0 || what == 1);
        within(ticks, 1, 60);
        List<List<Integer>> rows = run(world.copy(), ticks);
        return what == 0 ? rows.stream().mapToInt(List::size).max().orElse(0)
            : (int) rows.stream().filter(List::isEmpty).count();
    }

    private List<List<Integer>> runBy(int set, int ticks, int sleeper) {
        World w = world.copy();
        Arrays.fill(w.waiting, 0);
        Arrays.fill(w.rests, 0);
        if (sleeper >= 0) {
            w.asleep[sleeper] = true;
        }
        for (int f = 0; f < size(); f++) {
            if ((set >> f & 1) == 1 && !w.asleep[f]) {
                w.waiting[f] = 1;
            }
        }
        return run(w, ticks);
    }

    private int union(List<List<Integer>> rows) {
        return bits(farmsWhere(f -> rows.stream().anyMatch(row -> row.contains(f))));
    }

    public int reaches(int farm, int other) {
        needFarm(farm);
        needFarm(other);
        return firstIn(runBy(1 << farm, 60, -1), other);
    }

    public int reached(int farm, int ticks) {
        needFarm(farm);
        within(ticks, 0, 60);
        return union(runBy(1 << farm, ticks, -1));
    }

    public int through(int farm, int other) {
        if (reaches(farm, other) == -1) {
            return 0;
        }
        return bits(farmsWhere(third -> third != farm && third != other
            && firstIn(runBy(1 << farm, 60, third), other) == -1));
    }

    public int best(int ticks) {
        within(ticks, 1, 60);
        return most(0, size(), f -> Integer.bitCount(reached(f, ticks)));
    }

    public int toBegin(int ticks) {
        within(ticks, 1, 60);
        int awake = (1 << size()) - 1 & ~count(5);
        return fewest(set -> (set & ~awake) == 0 && union(runBy(set, ticks, -1)) == awake);
    }

    // ---- views

    public int way(int farm, int other) {
        needFarm(farm);
        needFarm(other);
        int[] steps = new int[size()];
        Arrays.fill(steps, -1);
        steps[farm] = 0;
        Deque<Integer> queue = new ArrayDeque<>(List.of(farm));
        while (!queue.isEmpty()) {
            int one = queue.poll();
            for (int next : farmsWhere(f -> steps[f] == -1 && seesNow(one, f))) {
                steps[next] = steps[one] + 1;
                queue.add(next);
            }
        }
        return steps[other];
    }

    public int toHat(int farm, int other) {
        needFarm(farm);
        needFarm(other);
        World w = world.copy();
        for (int hat = 0; hat <= 20; hat++) {
            w.hat[farm] = hat;
            if (inSight(w, farm, other, mistAt(w.tick))) {
                return hat;
            }
        }
        return -1;
    }

    public int between(int farm, int other) {
        needFarm(farm);
        needFarm(other);
        return bits(farmsWhere(third -> isInTheWay(world, farm, other, third)));
    }

    public int line() {
        List<Integer> order = IntStream.range(0, size()).boxed()
            .sorted(Comparator.comparingInt(f -> land.farms.get(f).x())).toList();
        int most = 0;
        for (int from = 0; from < size(); from++) {
            int to = from;
            while (to + 1 < size() && seesNow(order.get(to), order.get(to + 1))) {
                to++;
            }
            most = Math.max(most, to - from + 1);
        }
        return most;
    }

    public int hidden(int farm) {
        needFarm(farm);
        return bits(farmsWhere(f -> f != farm && !seesNow(farm, f)));
    }

    // ---- seen

    public int see(int farm, int k, boolean nods) {
        needFarm(farm);
        if (saw.size() == 8 || k < 1 || k > 20) {
            status[2]++;
            return -1;
        }
        saw.add(new Saw(farm, k, nods));
        return saw.size();
    }

    private List<List<Integer>> runIf(int farm) {
        World w = world.copy();
        if (farm >= 0) {
            w.waiting[farm] = 1;
        }
        return run(w, 20);
    }

    private boolean isSo(List<List<Integer>> rows) {
        return saw.stream().allMatch(s -> rows.get(s.k() - 1).contains(s.farm()) == s.nods());
    }

    private List<Integer> suspects() {
        return farmsWhere(f -> !world.asleep[f] && isSo(runIf(f)));
    }

    public int begun(int what) {
        need(what >= 0 && what <= 2);
        if (what == 2) {
            return isSo(runIf(-1)) ? 1 : 0;
        }
        List<Integer> who = suspects();
        return what == 0 ? who.size() : who.isEmpty() ? -1 : who.get(0);
    }

    public int look(int what) {
        need(what >= 0 && what <= 1);
        List<List<List<Integer>>> ways = suspects().stream().map(this::runIf).toList();
        if (ways.isEmpty()) {
            return what == 0 ? -1 : 0;
        }
        ToIntFunction<Integer> unlike = k -> (int) ways.stream().map(rows -> rows.get(k - 1)).distinct().count();
        int k = most(1, 21, unlike);
        return what == 0 ? k : unlike.applyAsInt(k);
    }

    public void forget() {
        saw.clear();
    }

    // ---- mist, game, years

    public int byMist(int farm, int ticks, int tenths) {
        needFarm(farm);
        within(ticks, 1, 5);
        within(tenths, 0, 10);
        return likely(world.copy(), farm, ticks, tenths);
    }

    private int likely(World w, int farm, int ticks, int tenths) {
        if (ticks == 0) {
            return w.nods[farm] > world.nods[farm] ? 1 : 0;
        }
        World thick = w.copy();
        tick(thick, 9);
        World clear = w.copy();
        tick(clear, 0);
        return tenths * likely(thick, farm, ticks - 1, tenths) + (10 - tenths) * likely(clear, farm, ticks - 1, tenths);
    }

    public int game(int farm, int other, int what) {
        needFarm(farm);
        needFarm(other);
        need(what == 0 || what == 1);
        within(farm == other ? 1 : 0, 0, 0);
        if (world.asleep[farm] || world.asleep[other]) {
            return -1;
        }
        List<Integer> rest = new ArrayList<>();
        for (int a = 0; a <= 1; a++) {
            for (int b = 0; b <= 1; b++) {
                boolean isBest = gain(farm, other, a, b, farm) >= gain(farm, other, 1 - a, b, farm)
                    && gain(farm, other, a, b, other) >= gain(farm, other, a, 1 - b, other);
                if (isBest) {
                    rest.add(10 * a + b);
                }
            }
        }
        return what == 0 ? rest.size() : rest.isEmpty() ? -1 : rest.get(0);
    }

    private int gain(int farm, int other, int a, int b, int whose) {
        World w = world.copy();
        w.waiting[farm] = a == 1 ? 1 : w.waiting[farm];
        w.waiting[other] = b == 1 ? 1 : w.waiting[other];
        List<List<Integer>> rows = run(w, 9);
        int others = farmsWhere(f -> f != whose && firstIn(rows, f) != -1).size();
        int own = (int) rows.stream().filter(row -> row.contains(whose)).count();
        return others - 2 * (whose == farm ? a : b) - own;
    }

    private int seed;

    private int draw(int n) {
        seed = (int) (seed * 1103515245L + 12345L);
        return (seed >> 16 & 0x7fff) % n;
    }

    public int years(int start, int n, int what) {
        need(what >= 0 && what <= 2);
        within(n, 0, 60);
        seed = start;
        World w = world.copy();
        List<List<Integer>> rows = new ArrayList<>();
        for (int year = 0; year < n; year++) {
            int event = draw(6);
            int farm = event < 3 && size() > 0 ? draw(size()) : -1;
            if (farm >= 0 && event == 0 && !w.asleep[farm]) {
                w.waiting[farm] = 1;
            } else if (farm >= 0 && event == 1) {
                w.asleep[farm] = !w.asleep[farm];
                w.waiting[farm] = 0;
            } else if (farm >= 0 && event == 2) {
                w.hat[farm] = draw(21);
            }
            rows.add(tick(w, draw(10)));
        }
        return switch (what) {
            case 0 -> rows.stream().mapToInt(List::size).sum();
            case 1 -> bits(farmsWhere(f -> w.asleep[f]));
            default -> farmsWhere(f -> firstIn(rows, f) == -1).size();
        };
    }

    // ---- the image

    public void image() {
        image = new Image(world.copy(), acts.stream().map(World::copy).toList(), List.copyOf(saw), status.clone());
    }

    public boolean restore() {
        if (image == null) {
            return false;
        }
        world = image.world().copy();
        acts = new ArrayList<>(image.acts().stream().map(World::copy).toList());
        saw = new ArrayList<>(image.saw());
        status = image.status().clone();
        return true;
    }
}
