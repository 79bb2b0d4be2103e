import java.lang.reflect.InvocationTargetException;
import java.lang.reflect.Method;
import java.util.ArrayList;
import java.util.Comparator;
import java.util.List;
import java.util.Random;

/** Runs of calls drawn by a seed, each asked of NodPost and of Model; any exception but the document's is wrong. */
public final class RandomRunsTest {
    private static final String[] VALUES = {"seen", "far", "up", "nods", "mist", "tick"};
    private static final String[] JUNK = {"farm", "shepherd", "mist", "sight", "rest", "minds", "or", "and", "not",
        "seen", "far", "up", "nods", "tick", "hill", "farms", ";", "(", ")", "+", "-", "*", "/", "<", "=", "0", "5",
        "42", "100", "9999", "12345", "00000", "?", "A", "\u00e9", "\t", "\0"};
    private static int wrong = 0;

    private RandomRunsTest() {
    }

    public static void main(String[] args) throws Exception {
        int runs = args.length > 0 ? Integer.parseInt(args[0]) : 250;
        int from = args.length > 1 ? Integer.parseInt(args[1]) : 0;
        List<Method> calls = new ArrayList<>();
        for (Method method : NodPost.class.getDeclaredMethods()) {
            if (java.lang.reflect.Modifier.isPublic(method.getModifiers())) {
                calls.add(method);
            }
        }
        calls.sort(Comparator.comparing(Method::getName));
        Check.is("public methods", calls.size(), 37);
        for (int run = from; run < from + runs && wrong < 5; run++) {
            new Run(run, calls).go();
        }
        Check.is("wrong runs", wrong, 0);
        Check.end("RandomRunsTest");
    }

    private static final class Run {
        private final int number;
        private final Random random;
        private final List<Method> calls;
        private final NodPost post = new NodPost();
        private final Model model = new Model();
        private final StringBuilder story = new StringBuilder();

        Run(int number, List<Method> calls) {
            this.number = number;
            this.random = new Random(number);
            this.calls = calls;
        }

        void go() throws Exception {
            boolean fine = tell();
            for (int i = 0; i < 400 && fine; i++) {
                if (random.nextInt(150) == 0) {
                    fine = tell();
                } else {
                    Method call = calls.get(random.nextInt(calls.size()));
                    fine = ask(call, arguments(call));
                    if (fine && random.nextInt(4) == 0) {
                        fine = live();
                    }
                }
            }
            if (!fine) {
                wrong++;
            }
        }

        /** More of what lets time go by than the even draw of calls gives. */
        private boolean live() throws Exception {
            int farm = random.nextInt(9);
            return random.nextBoolean() ? ask(method("begin"), farm) : ask(method("ticks"), 1 + random.nextInt(4));
        }

        private boolean tell() throws Exception {
            String text = random.nextInt(4) == 0 ? spoiled(text()) : text();
            text = text.length() > 700 ? text.substring(0, 700) : text;
            if (!ask(method("upland"), 0)) {
                return false;
            }
            for (int at = 0; at < text.length(); at += 20) {
                int[] n = Check.numbers(text, at);
                if (!ask(method("feed"), n[0], n[1], n[2], n[3], n[4])) {
                    return false;
                }
            }
            story.append("text ").append(text).append('\n');
            return ask(method("upland"), text.length()) && ask(method("fault"));
        }

        private Method method(String name) {
            return calls.stream().filter(call -> call.getName().equals(name)).findFirst().orElseThrow();
        }

        private Object[] arguments(Method call) {
            Class<?>[] types = call.getParameterTypes();
            Object[] arguments = new Object[types.length];
            for (int i = 0; i < types.length; i++) {
                arguments[i] = types[i] == boolean.class ? (Object) random.nextBoolean() : (Object) number(call, i);
            }
            return arguments;
        }

        private int number(Method call, int i) {
            if (random.nextInt(60) == 0) {
                int[] odd = {-1, 9, 10, 21, 60, 61, Integer.MAX_VALUE, Integer.MIN_VALUE};
                return odd[random.nextInt(odd.length)];
            }
            return switch (call.getName() + i) {
                case "feed0", "feed1", "feed2", "feed3", "feed4", "years0" -> random.nextInt();
                case "upland0" -> random.nextInt(30) - 20;
                case "count0" -> random.nextInt(17);
                case "farm1" -> random.nextInt(11);
                case "ticks0" -> random.nextInt(10) == 0 ? random.nextInt(25) : random.nextInt(5);
                case "hat1" -> random.nextInt(23) - 1;
                case "see1" -> random.nextInt(10);
                case "nodding0", "then1", "loudest0", "oftenest0", "reached1", "best0", "toBegin0", "crowd0", "years1" ->
                    random.nextInt(3) == 0 ? random.nextInt(62) : random.nextInt(12);
                case "byMist1" -> random.nextInt(7);
                case "byMist2" -> random.nextInt(12);
                case "crowd1", "then2", "game2", "look0" -> random.nextInt(10) == 0 ? 2 : random.nextInt(2);
                case "begun0", "years2" -> random.nextInt(10) == 0 ? 3 : random.nextInt(3);
                default -> random.nextInt(random.nextInt(8) == 0 ? 10 : 5);
            };
        }

        private boolean ask(Method call, Object... arguments) throws Exception {
            Object got = answer(call, post, arguments);
            Object due = answer(Model.class.getMethod(call.getName(), call.getParameterTypes()), model, arguments);
            String text = call.getName() + java.util.Arrays.toString(arguments);
            story.append(text).append(" -> ").append(due).append('\n');
            if (String.valueOf(got).equals(String.valueOf(due))) {
                return true;
            }
            System.out.println("run " + number + ":\n" + story + text + " answered " + got + ", the model " + due);
            return false;
        }

        private static Object answer(Method call, Object on, Object[] arguments) throws Exception {
            try {
                return call.invoke(on, arguments);
            } catch (InvocationTargetException e) {
                return e.getCause().getClass().getName();
            }
        }

        private String text() {
            StringBuilder text = new StringBuilder();
            List<String> lines = new ArrayList<>();
            List<Integer> places = new ArrayList<>();
            int farms = random.nextInt(20) == 0 ? 0 : 2 + random.nextInt(8);
            boolean flat = random.nextInt(3) == 0;
            while (places.size() < farms) {
                int x = random.nextInt(random.nextBoolean() ? 100 : 40);
                if (!places.contains(x)) {
                    places.add(x);
                    lines.add((random.nextInt(5) == 0 ? "shepherd " : "farm ") + x + " "
                        + random.nextInt(flat ? 5 : 100) + " " + random.nextInt(random.nextBoolean() ? 21 : 3) + " "
                        + (1 + random.nextInt(random.nextInt(3) == 0 ? 5 : 2)) + ";");
                }
            }
            if (random.nextBoolean()) {
                StringBuilder mist = new StringBuilder("mist");
                int many = 1 + random.nextInt(8);
                for (int i = 0; i < many; i++) {
                    mist.append(' ').append(random.nextInt(random.nextBoolean() ? 4 : 10));
                }
                lines.add(random.nextInt(lines.size() + 1), mist + ";");
            }
            if (random.nextBoolean()) {
                lines.add(random.nextInt(lines.size() + 1), "sight " + (20 + random.nextInt(80)) + ";");
            }
            if (random.nextBoolean()) {
                lines.add(random.nextInt(lines.size() + 1), "rest " + random.nextInt(random.nextBoolean() ? 3 : 10) + ";");
            }
            if (random.nextBoolean()) {
                lines.add(random.nextInt(lines.size() + 1), "minds " + expression(0) + ";");
            }
            for (String line : lines) {
                text.append(line).append(random.nextInt(3) == 0 ? "\n" : "");
            }
            return text.toString();
        }

        private String expression(int depth) {
            String one = part(depth);
            if (random.nextInt(3 + depth) > 2) {
                return random.nextInt(8) == 0 ? "not " + one : one;
            }
            String[] operators = {" or ", " and ", "<", " = ", "+", "-", " *", "/"};
            return (random.nextInt(8) == 0 ? "not not " : "") + one + operators[random.nextInt(8)] + expression(depth + 1);
        }

        private String part(int depth) {
            int kind = random.nextInt(7);
            if (kind < 3) {
                return VALUES[random.nextInt(VALUES.length)];
            }
            return kind < 6 || depth > 6 ? String.valueOf(random.nextInt(random.nextBoolean() ? 10 : 10000))
                : "(" + expression(depth + 1) + ")";
        }

        private String spoiled(String text) {
            int at = random.nextInt(text.length() + 1);
            int to = Math.min(text.length(), at + random.nextInt(4));
            String put = JUNK[random.nextInt(JUNK.length)];
            return switch (random.nextInt(4)) {
                case 0 -> text.substring(0, at);
                case 1 -> text.substring(0, at) + text.substring(to);
                case 2 -> text.substring(0, at) + " " + put + " " + text.substring(at);
                default -> text.substring(0, at) + put + text.substring(to);
            };
        }
    }
}
