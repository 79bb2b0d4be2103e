import java.lang.management.ManagementFactory;
import java.lang.reflect.Array;
import java.lang.reflect.Field;
import java.lang.reflect.Modifier;
import java.util.ArrayDeque;
import java.util.Collections;
import java.util.Deque;
import java.util.IdentityHashMap;
import java.util.Set;

/** Rule 12 of ../shared/LANGUAGE.md: what an object is made of is small, and no call that answers makes anything. */
public final class RoomTest {
    private static final String NINE = "farm 0 9 0 1;farm 10 0 0 2;farm 20 0 0 1;farm 30 0 0 1;shepherd 40 3 9 5;"
        + "farm 50 0 0 1;farm 60 0 0 1;farm 70 0 0 1;farm 80 0 0 1;sight 30;rest 1;mist 0 0 1;minds not seen=3;";
    private static final int MOST_OBJECTS = 100;
    private static final int MOST_FIELDS = 10000;

    private RoomTest() {
    }

    public static void main(String[] args) throws IllegalAccessException {
        NodPost post = Check.post(NINE);
        made(post);
        com.sun.management.ThreadMXBean bean = (com.sun.management.ThreadMXBean) ManagementFactory.getThreadMXBean();
        long id = Thread.currentThread().getId();
        // The machine itself makes something now and then: the least of some rounds is what the calls make.
        long least = Long.MAX_VALUE;
        for (int round = 0; round < 12; round++) {
            long before = bean.getThreadAllocatedBytes(id);
            callAll(post);
            least = Math.min(least, bean.getThreadAllocatedBytes(id) - before);
        }
        Check.is("bytes that calls have made", least, 0);
        Check.end("RoomTest");
    }

    private static void made(NodPost post) throws IllegalAccessException {
        Set<Object> found = Collections.newSetFromMap(new IdentityHashMap<>());
        Deque<Object> left = new ArrayDeque<>();
        left.add(post);
        found.add(post);
        int fields = 0;
        while (!left.isEmpty()) {
            Object one = left.poll();
            if (one.getClass().isArray()) {
                fields += Array.getLength(one);
                continue;
            }
            for (Field field : one.getClass().getDeclaredFields()) {
                if (Modifier.isStatic(field.getModifiers())) {
                    continue;
                }
                fields++;
                if (!field.getType().isPrimitive() && !field.getType().isEnum()) {
                    field.setAccessible(true);
                    Object next = field.get(one);
                    if (next != null && found.add(next)) {
                        left.add(next);
                    }
                }
            }
        }
        Check.is("too many objects: " + found.size(), found.size() > MOST_OBJECTS, false);
        Check.is("too many fields and elements: " + fields, fields > MOST_FIELDS, false);
    }

    private static int callAll(NodPost post) {
        int sum = 0;
        post.image();
        for (int farm = 0; farm < 9; farm++) {
            int other = (farm + 1) % 9;
            sum += post.begin(farm) ? 1 : 0;
            sum += post.ticks(2) + post.hat(farm, other) + post.undo() + post.farm(farm, 9) + post.count(farm);
            sum += post.then(farm, 60, 1) + post.first(farm) + post.reaches(farm, other) + post.reached(farm, 60);
            sum += post.through(farm, other) + post.way(farm, other) + post.toHat(farm, other) + post.hidden(farm);
            sum += post.between(farm, other) + post.byMist(farm, 5, 5) + post.game(farm, other, 0);
            sum += post.years(farm, 60, 0) + post.see(farm, 1 + farm, false) + post.begun(0) + post.look(1);
            sum += post.sleep(farm, true) ? 1 : 0;
            sum += post.sleep(farm, false) ? 1 : 0;
        }
        sum += post.nodding(60) + post.still() + post.loudest(60) + post.oftenest(60) + post.crowd(60, 0);
        sum += post.best(60) + post.toBegin(60) + post.line() + post.hush() + post.fault();
        post.forget();
        sum += post.restore() ? 1 : 0;
        sum += post.feed(sum, sum, sum, sum, sum) + post.upland(0);
        sum += feedNine(post);
        return sum;
    }

    /** NINE once more, without making anything. */
    private static int feedNine(NodPost post) {
        for (int at = 0; at < NINE.length(); at += 20) {
            post.feed(four(at), four(at + 4), four(at + 8), four(at + 12), four(at + 16));
        }
        return post.upland(NINE.length());
    }

    private static int four(int at) {
        int number = 0;
        for (int i = at; i < at + 4; i++) {
            number = number << 8 | (i < NINE.length() ? NINE.charAt(i) : ' ');
        }
        return number;
    }
}
