import java.lang.reflect.Constructor;
import java.lang.reflect.Field;
import java.lang.reflect.Method;
import java.lang.reflect.Modifier;
import java.nio.file.Files;
import java.nio.file.Path;
import java.util.Arrays;
import java.util.HashSet;
import java.util.List;
import java.util.Set;
import java.util.TreeSet;
import java.util.regex.Matcher;
import java.util.regex.Pattern;

/** The public face is that of the document, to the letter, and the class shows nothing else. */
public final class FaceTest {
    private static final Checks CHECKS = new Checks("FaceTest");

    public static void main(String[] args) throws Exception {
        Set<String> due = documented();
        CHECKS.due("the members that the document lists", due.size(), 58);
        Set<String> shown = shown();
        for (String member : due) {
            CHECKS.due("has " + member, shown.contains(member) ? 1 : 0, 1);
        }
        for (String member : shown) {
            CHECKS.due("shows " + member + ", as the document does", due.contains(member) ? 1 : 0, 1);
        }
        CHECKS.due("modifiers", TrolleyPlanner.class.getModifiers(), Modifier.PUBLIC | Modifier.FINAL);
        CHECKS.due("FAILED", TrolleyPlanner.FAILED, Integer.MIN_VALUE);
        CHECKS.due("FAILED_LONG", TrolleyPlanner.FAILED_LONG, Long.MIN_VALUE);
        noPrivateNameOfAPublicOne();
        CHECKS.end();
    }

    /** The lines of the face, with the names of arguments left out. */
    private static Set<String> documented() throws Exception {
        String document = Files.readString(Path.of("../shared/DOC.md"));
        String face = document.substring(document.indexOf("```java"), document.indexOf("## Description"));
        Set<String> members = new TreeSet<>();
        Matcher line = Pattern.compile("    public (.*?)( = .*)?;").matcher(face);
        while (line.find()) {
            members.add(line.group(1).replaceAll("(int|boolean) \\w+([,)])", "$1$2"));
        }
        return members;
    }

    private static Set<String> shown() {
        Set<String> members = new TreeSet<>();
        for (Method m : TrolleyPlanner.class.getDeclaredMethods()) {
            if (!Modifier.isPrivate(m.getModifiers())) {
                String thrown = m.getExceptionTypes().length == 0 ? "" : " throws " + m.getExceptionTypes()[0].getSimpleName();
                members.add(m.getReturnType() + " " + m.getName() + arguments(m.getParameterTypes()) + thrown);
                CHECKS.due("modifiers of " + m.getName(), m.getModifiers(), Modifier.PUBLIC);
            }
        }
        for (Constructor<?> c : TrolleyPlanner.class.getDeclaredConstructors()) {
            members.add("TrolleyPlanner" + arguments(c.getParameterTypes()));
            CHECKS.due("modifiers of the constructor", c.getModifiers(), Modifier.PUBLIC);
        }
        for (Field f : TrolleyPlanner.class.getDeclaredFields()) {
            if (!Modifier.isPrivate(f.getModifiers())) {
                members.add(Modifier.toString(f.getModifiers()).replace("public ", "") + " " + f.getType() + " " + f.getName());
            }
        }
        return members;
    }

    private static String arguments(Class<?>[] types) {
        return Arrays.toString(types).replace('[', '(').replace(']', ')');
    }

    private static void noPrivateNameOfAPublicOne() {
        Set<String> publicNames = new HashSet<>();
        for (Method m : TrolleyPlanner.class.getDeclaredMethods()) {
            if (Modifier.isPublic(m.getModifiers())) {
                publicNames.add(m.getName());
            }
        }
        for (Class<?> inside : List.of(TrolleyPlanner.class.getDeclaredClasses())) {
            for (Method m : inside.getDeclaredMethods()) {
                CHECKS.due(inside.getSimpleName() + "." + m.getName() + " is a name of its own",
                    publicNames.contains(m.getName()) ? 1 : 0, 0);
            }
        }
        for (Method m : TrolleyPlanner.class.getDeclaredMethods()) {
            if (Modifier.isPrivate(m.getModifiers())) {
                CHECKS.due(m.getName() + " is a name of its own", publicNames.contains(m.getName()) ? 1 : 0, 0);
            }
        }
    }

    private FaceTest() {
    }
}
