import java.io.IOException;
import java.lang.reflect.Constructor;
import java.lang.reflect.Field;
import java.lang.reflect.Method;
import java.lang.reflect.Modifier;
import java.nio.file.Files;
import java.nio.file.Path;
import java.util.List;
import java.util.Set;
import java.util.TreeSet;
import java.util.regex.Pattern;

/** What of the rules of the language can be read from the class and from its text. */
public final class RulesTest {
    private static final Path SOURCE = Path.of("src/main/java/DesignTurns.java");
    private static final Set<String> FACE = new TreeSet<>(List.of(
            "int task(int)", "int time(int, int)", "int need(int, int, int)", "int strength(int, int)",
            "int leans(int, int)", "int blocks()", "int block(int)", "int least()", "int leastAt(int)",
            "int saved(int, int)", "int at(int)", "int swap(int, int)", "int take()", "int guess()",
            "int torn(int, int)", "int chance(int, int, int)", "long mean(boolean)",
            "long often(int, boolean)", "int ends(int)", "int span()", "int between(int)",
            "int team(int, int)", "long force(int, int, boolean)", "int reach(int, int)", "int total(int)"));
    private static final List<String> FORBIDDEN = List.of(
            "\\bthrow\\b", "\\bthrows\\b", "\\btry\\b", "\\bcatch\\b", "\\bsynchronized\\b", "\\bassert\\b",
            "->", "::", "\\bprotected\\b", "\\bstatic \\{", "Exact\\b", "\\btoString\\b", "\\bequals\\b",
            "\\bhashCode\\b", "\\bSystem\\.(?!arraycopy)", "\\bRandom\\b", "\\bThread\\b", "\\bInteger\\.",
            "\\bLong\\.", "\\bwhile\\b");

    private static final Checks checks = new Checks();

    public static void main(String[] args) throws IOException {
        face();
        namesOfFaceStandOnce();
        text();
        nothingIsMadeInCalls();
        checks.end();
    }

    private static void face() {
        checks.promise("rule 1");
        Set<String> open = new TreeSet<>();
        for (Method method : DesignTurns.class.getDeclaredMethods()) {
            if (Modifier.isPublic(method.getModifiers())) {
                open.add(told(method));
            } else {
                checks.dueTrue(method + " is not private", Modifier.isPrivate(method.getModifiers()));
            }
        }
        checks.dueTrue("the public methods are " + open, open.equals(FACE));
        Set<String> constants = new TreeSet<>();
        for (Field field : DesignTurns.class.getDeclaredFields()) {
            if (Modifier.isPublic(field.getModifiers())) {
                constants.add(field.getName());
            } else {
                checks.dueTrue(field + " is not private", Modifier.isPrivate(field.getModifiers()));
            }
        }
        checks.dueTrue("the constants are " + constants,
                constants.equals(Set.of("UNKNOWN", "BAD", "STATE", "FULL", "NONE")));
        Constructor<?>[] constructors = DesignTurns.class.getDeclaredConstructors();
        checks.due("constructors", constructors.length, 1);
        checks.dueTrue("the class is public and final", DesignTurns.class.getModifiers()
                == (Modifier.PUBLIC | Modifier.FINAL));
    }

    private static String told(Method method) {
        StringBuilder text = new StringBuilder(method.getReturnType() + " " + method.getName() + "(");
        String gap = "";
        for (Class<?> type : method.getParameterTypes()) {
            text.append(gap).append(type);
            gap = ", ";
        }
        return text.append(")").toString();
    }

    private static void namesOfFaceStandOnce() {
        checks.promise("rule 1, names");
        Set<String> names = new TreeSet<>();
        for (String method : FACE) {
            names.add(method.substring(method.indexOf(' ') + 1, method.indexOf('(')));
        }
        for (Class<?> inside : DesignTurns.class.getDeclaredClasses()) {
            checks.dueTrue(inside + " is static", Modifier.isStatic(inside.getModifiers()));
            checks.dueTrue(inside + " is private", Modifier.isPrivate(inside.getModifiers()));
            for (Method method : inside.getDeclaredMethods()) {
                checks.dueTrue(method + " bears a name of the face", !names.contains(method.getName()));
            }
        }
    }

    private static void text() throws IOException {
        checks.promise("rules 4 to 6, 9");
        String text = Files.readString(SOURCE).replaceAll("(?s)/\\*.*?\\*/", "").replaceAll("//.*", "");
        for (String word : FORBIDDEN) {
            checks.dueTrue("the text has " + word, !Pattern.compile(word).matcher(text).find());
        }
    }

    /** All rows are made with the object, so a run's calls take no room. */
    private static void nothingIsMadeInCalls() throws IOException {
        checks.promise("rule 12 and the room");
        for (String line : Files.readAllLines(SOURCE)) {
            checks.dueTrue("made in a call: " + line,
                    !line.contains(" new ") || line.matches(" +private final .*= new .*;"));
            checks.dueTrue("copied in a call: " + line, !line.contains("copyOf") && !line.contains("clone"));
        }
    }
}
