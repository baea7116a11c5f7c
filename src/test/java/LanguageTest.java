import java.lang.reflect.Field;
import java.lang.reflect.Method;
import java.lang.reflect.Modifier;
import java.nio.file.Files;
import java.nio.file.Path;
import java.util.regex.Matcher;
import java.util.regex.Pattern;

/** What can be seen of ../shared/LANGUAGE.md in the program's own lines. */
public final class LanguageTest {
    private static final Checks CHECKS = new Checks("LanguageTest");
    private static final int LONGEST_METHOD = 60;
    private static final int MOST_FIELDS = 20;
    private static final int MOST_PARAMETERS = 7;

    public static void main(String[] args) throws Exception {
        String source = Files.readString(Path.of("src/main/java/TrolleyPlanner.java"));
        String code = source.replaceAll("(?s)/\\*.*?\\*/", "").replaceAll("//[^\n]*", "");
        for (String word : new String[] {"->", "::", "catch", "finally", "synchronized", "assert ", "package ", "float",
            "double", "Exact", "Object", "equals(", "hashCode", "toString", "while (true)", "for (;;)", "new int[0]"}) {
            CHECKS.due("the program has " + word, code.contains(word) ? 1 : 0, 0);
        }
        Matcher imported = Pattern.compile("import ([\\w.]+);").matcher(code);
        while (imported.find()) {
            boolean listed = imported.group(1).equals("java.util.Arrays")
                || imported.group(1).equals("java.util.NoSuchElementException");
            CHECKS.due("imports " + imported.group(1) + ", as the rules let it", listed ? 1 : 0, 1);
        }
        Matcher library = Pattern.compile("\\b(Arrays|System|Math|Integer|Long)\\.(\\w+)").matcher(code);
        while (library.find()) {
            CHECKS.due("uses " + library.group(), "fill arraycopy max min abs compare".contains(library.group(2)) ? 1 : 0, 1);
        }
        Matcher division = Pattern.compile(" [/%]=? ").matcher(code);
        int divisions = 0;
        while (division.find()) {
            divisions++;
        }
        CHECKS.due("divisions, each behind a test of its divisor", divisions, 2);
        CHECKS.due("throw statements", code.split("\\bthrow\\b", -1).length - 1, 1);
        CHECKS.due("classes", Pattern.compile("\\bclass \\w").matcher(code).results().count() <= 12 ? 1 : 0, 1);
        methodsAreShort(code);
        classIsPlain(TrolleyPlanner.class);
        for (Class<?> inside : TrolleyPlanner.class.getDeclaredClasses()) {
            CHECKS.due(inside.getSimpleName() + " is private and static", inside.getModifiers() & (Modifier.PRIVATE | Modifier.STATIC),
                Modifier.PRIVATE | Modifier.STATIC);
            classIsPlain(inside);
        }
        CHECKS.end();
    }

    /** Few fields, none of them static but constants of the types that the rules let be; few parameters. */
    private static void classIsPlain(Class<?> one) {
        int fields = 0;
        for (Field field : one.getDeclaredFields()) {
            String name = one.getSimpleName() + "." + field.getName();
            if (Modifier.isStatic(field.getModifiers())) {
                boolean constant = field.getType() == int.class || field.getType() == long.class;
                CHECKS.due(name + " is a constant", constant && Modifier.isFinal(field.getModifiers()) ? 1 : 0, 1);
            } else {
                fields++;
                CHECKS.due(name + " is an array of one dimension at most", field.getType().getName().startsWith("[[") ? 1 : 0, 0);
            }
        }
        CHECKS.due(one.getSimpleName() + " has few fields", fields <= MOST_FIELDS ? 1 : 0, 1);
        for (Method method : one.getDeclaredMethods()) {
            CHECKS.due(method.getName() + " has few parameters", method.getParameterCount() <= MOST_PARAMETERS ? 1 : 0, 1);
        }
    }

    private static void methodsAreShort(String code) {
        Matcher method = Pattern.compile("(?m)^( +)(?!class)[\\w<>\\[\\] ]+\\([^;{]*\\)[\\w ]*\\{\n((?:.*\n)*?)\\1\\}").matcher(code);
        int methods = 0;
        while (method.find()) {
            methods++;
            long lines = method.group().lines().count();
            CHECKS.due("short: " + method.group().lines().findFirst().get().trim(), lines <= LONGEST_METHOD ? 1 : 0, 1);
        }
        CHECKS.due("methods found", methods > 100 ? 1 : 0, 1);
    }

    private LanguageTest() {
    }
}
