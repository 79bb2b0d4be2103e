import java.io.IOException;
import java.lang.reflect.Constructor;
import java.lang.reflect.Field;
import java.lang.reflect.Member;
import java.lang.reflect.Method;
import java.lang.reflect.Modifier;
import java.nio.file.Files;
import java.nio.file.Path;
import java.util.ArrayList;
import java.util.List;
import java.util.Set;
import java.util.TreeSet;
import java.util.regex.Matcher;
import java.util.regex.Pattern;

/** What can be looked at of ../shared/LANGUAGE.md in the source and in the class: not all of it. */
public final class LanguageTest {
    private static final Path SOURCE = Path.of("src/main/java/NodPost.java");
    private static final Path DOCUMENT = Path.of("../shared/DOC.md");
    private static final int MOST_LINES = 60;
    private static final int MOST_PARAMETERS = 7;
    private static final int MOST_FIELDS = 20;
    private static final int MOST_CLASSES = 12;

    private LanguageTest() {
    }

    public static void main(String[] args) throws IOException {
        List<String> lines = Files.readAllLines(SOURCE);
        face();
        classes();
        forbidden(lines);
        made(lines);
        lengths(lines);
        Check.end("LanguageTest");
    }

    private static Set<String> publicNames() throws IOException {
        Set<String> names = new TreeSet<>();
        Matcher matcher = Pattern.compile("    public (?:int|boolean|void) (\\w+)\\(").matcher(Files.readString(DOCUMENT));
        while (matcher.find()) {
            names.add(matcher.group(1));
        }
        return names;
    }

    private static void face() throws IOException {
        Set<String> due = publicNames();
        Set<String> names = new TreeSet<>();
        for (Method method : NodPost.class.getDeclaredMethods()) {
            if (Modifier.isPrivate(method.getModifiers())) {
                Check.is("private " + method.getName() + " bears a public name", due.contains(method.getName()), false);
            } else {
                names.add(method.getName());
            }
        }
        Check.is("the face", names, due);
        for (Constructor<?> constructor : NodPost.class.getDeclaredConstructors()) {
            Check.is("the constructor's parameters", constructor.getParameterCount(), 0);
        }
        for (Field field : NodPost.class.getDeclaredFields()) {
            Check.is(field.getName() + " can be seen", !Modifier.isPrivate(field.getModifiers()),
                field.getName().equals("NONE"));
        }
        Check.is("final", Modifier.isFinal(NodPost.class.getModifiers()), true);
    }

    private static void classes() throws IOException {
        List<Class<?>> classes = new ArrayList<>(List.of(NodPost.class.getDeclaredClasses()));
        Check.is("classes inside are too many", classes.size() >= MOST_CLASSES, false);
        for (Class<?> inside : classes) {
            Check.is(inside + " is static", Modifier.isStatic(inside.getModifiers()), true);
            for (Method method : inside.getDeclaredMethods()) {
                Check.is(name(inside, method) + " bears a public name", publicNames().contains(method.getName()), false);
            }
        }
        classes.add(NodPost.class);
        for (Class<?> one : classes) {
            int fields = 0;
            for (Field field : one.getDeclaredFields()) {
                boolean isStatic = Modifier.isStatic(field.getModifiers());
                fields += isStatic ? 0 : 1;
                Check.is(name(one, field) + " is static, but not final",
                    isStatic && !Modifier.isFinal(field.getModifiers()), false);
            }
            Check.is(one + " has too many fields", fields > MOST_FIELDS, false);
            for (Method method : one.getDeclaredMethods()) {
                Check.is(name(one, method) + " has too many parameters",
                    method.getParameterCount() > MOST_PARAMETERS, false);
            }
        }
    }

    private static String name(Class<?> one, Member member) {
        return one.getSimpleName() + "." + member.getName();
    }

    private static void forbidden(List<String> lines) {
        Pattern pattern = Pattern.compile("->|::|Exact|\\b(try|catch|finally|synchronized|assert|instanceof|package"
            + "|Object|System\\.(?!arraycopy)|Random|Thread|double|float|hashCode|toString|getMessage|while \\(true)\\b");
        for (String line : lines) {
            boolean isComment = line.strip().startsWith("/") || line.strip().startsWith("*");
            Check.is("a forbidden word in: " + line, !isComment && pattern.matcher(line).find(), false);
            Check.is("an import of: " + line,
                line.startsWith("import") && !line.equals("import java.util.NoSuchElementException;"), false);
            Check.is("a sign beyond 127 in: " + line, line.chars().anyMatch(sign -> sign > 126), false);
        }
    }

    /** Only fields and exceptions are made, so that 512 calls leave next to nothing in the room. */
    private static void made(List<String> lines) {
        for (String line : lines) {
            boolean isField = line.matches("\\s+(private )?final .* = new .*;");
            Check.is("something is made in: " + line,
                line.contains("new ") && !line.contains("throw new ") && !isField && !line.contains("/** "), false);
        }
    }

    private static void lengths(List<String> lines) {
        int start = 0;
        for (int i = 0; i < lines.size(); i++) {
            if (lines.get(i).matches("\\s+(private |public |static |final )*\\w+(\\[\\])? \\w+\\(.*\\{")) {
                start = i;
            }
            if (lines.get(i).matches("    (    )?\\}") && start > 0) {
                Check.is("too long: " + lines.get(start), i - start > MOST_LINES, false);
                start = 0;
            }
        }
    }
}
