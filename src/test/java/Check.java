import java.util.NoSuchElementException;
import java.util.function.Supplier;

/** What the tests share: a tally of wrong answers, and uplands from texts. */
final class Check {
    /** What a call is said to answer when it throws. */
    static final String NO_SUCH = "NoSuchElementException";
    static final String ILLEGAL = "IllegalArgumentException";

    private static int wrong = 0;
    private static int asked = 0;

    private Check() {
    }

    static void is(String call, Object got, Object due) {
        asked++;
        if (!String.valueOf(got).equals(String.valueOf(due))) {
            wrong++;
            System.out.println(call + " answered " + got + ", due is " + due);
        }
    }

    static void noSuch(String call, Supplier<Object> asking) {
        is(call, answer(asking), NO_SUCH);
    }

    static void illegal(String call, Supplier<Object> asking) {
        is(call, answer(asking), ILLEGAL);
    }

    /** Only the two exceptions of the document are answers; any other one ends the test. */
    static Object answer(Supplier<Object> asking) {
        try {
            return asking.get();
        } catch (NoSuchElementException e) {
            return NO_SUCH;
        } catch (IllegalArgumentException e) {
            return e.getClass() == IllegalArgumentException.class ? ILLEGAL : e.toString();
        }
    }

    static void end(String test) {
        System.out.println(test + ": " + asked + " answers, " + wrong + " wrong");
        if (wrong != 0) {
            System.exit(1);
        }
    }

    /** Feeds the text in rows of twenty bytes, blanks behind it. */
    static void feed(NodPost post, String text) {
        for (int at = 0; at < text.length(); at += 20) {
            int[] numbers = numbers(text, at);
            post.feed(numbers[0], numbers[1], numbers[2], numbers[3], numbers[4]);
        }
    }

    static int[] numbers(String text, int at) {
        int[] numbers = new int[5];
        for (int i = 0; i < 20; i++) {
            int sign = at + i < text.length() ? text.charAt(at + i) : ' ';
            numbers[i / 4] |= sign << 24 - 8 * (i % 4);
        }
        return numbers;
    }

    static NodPost post(String text) {
        NodPost post = new NodPost();
        feed(post, text);
        is("upland of " + text, post.upland(text.length()), 0);
        return post;
    }
}
