import java.io.IOException;
import java.lang.reflect.Constructor;
import java.lang.reflect.Field;
import java.lang.reflect.Method;
import java.lang.reflect.Modifier;
import java.nio.charset.StandardCharsets;
import java.nio.file.Files;
import java.nio.file.Path;
import java.util.ArrayList;
import java.util.List;
import java.util.Map;
import java.util.Set;
import java.util.TreeMap;
import java.util.TreeSet;
import java.util.regex.Matcher;
import java.util.regex.Pattern;

/** What of the rules of the language can be read from the class and from its text. */
public final class RulesTest {
    private static final Path SOURCE = Path.of("src/main/java/DesignTurns.java");
    private static final List<String> FORBIDDEN = List.of(
            "\\bthrow\\b", "\\bthrows\\b", "\\btry\\b", "\\bcatch\\b", "\\bsynchronized\\b", "\\bassert\\b",
            "->", "::", "\\bprotected\\b", "\\bstatic \\{", "Exact\\b", "\\btoString\\b", "\\bequals\\b",
            "\\bhashCode\\b", "\\bSystem\\.(?!arraycopy)", "\\bRandom\\b", "\\bThread\\b", "\\bInteger\\.",
            "\\bLong\\.", "\\bwhile\\b", "\\bpackage\\b", "\\bvar\\b", "\\bnull\\b", "\\binstanceof\\b",
            "\\bArrays\\.(?!fill)", "\\bMath\\.(?!min|max)", "\\bimport (?!java\\.util\\.Arrays;)");
    private static final int MOST_CLASSES = 12;
    private static final int MOST_FIELDS = 20;
    private static final int MOST_PARAMETERS = 7;
    private static final int MOST_LINES = 60;
    private static final int MOST_CALLS_OPEN = 8;
    private static final Pattern METHOD = Pattern.compile("(?ms)^( {4}| {8})(?! )([^\n]*\\)) \\{\n(.*?)^\\1\\}");
    private static final Pattern CALL = Pattern.compile("(\\w+)\\(");

    private static final Checks checks = new Checks();
    private static String text;

    public static void main(String[] args) throws IOException {
        text = Files.readString(SOURCE).replaceAll("(?s)/\\*.*?\\*/", "").replaceAll("//.*", "");
        classesInside();
        namesOfFaceStandOnce();
        typesOfFields();
        words();
        loops();
        limits();
        lengths();
        callsOpen();
        nothingIsMadeInCalls();
        checks.end();
    }

    /** The class of the document and all inside it. */
    private static List<Class<?>> classes() {
        List<Class<?>> classes = new ArrayList<>(List.of(DesignTurns.class));
        classes.addAll(List.of(DesignTurns.class.getDeclaredClasses()));
        return classes;
    }

    private static void classesInside() {
        checks.promise("rules 1 and 2");
        for (Class<?> inside : DesignTurns.class.getDeclaredClasses()) {
            checks.dueTrue(inside + " is static", Modifier.isStatic(inside.getModifiers()));
            checks.dueTrue(inside + " is private", Modifier.isPrivate(inside.getModifiers()));
            checks.dueTrue(inside + " has classes inside", inside.getDeclaredClasses().length == 0);
        }
    }

    private static void namesOfFaceStandOnce() {
        checks.promise("rule 1, names");
        Set<String> names = new TreeSet<>();
        for (Method method : DesignTurns.class.getDeclaredMethods()) {
            if (Modifier.isPublic(method.getModifiers())) {
                names.add(method.getName());
            }
        }
        for (Class<?> each : classes()) {
            for (Method method : each.getDeclaredMethods()) {
                checks.dueTrue(method + " bears a name of the face", !names.contains(method.getName())
                        || each == DesignTurns.class && Modifier.isPublic(method.getModifiers()));
            }
        }
    }

    private static void typesOfFields() {
        checks.promise("rules 3 and 5");
        for (Class<?> each : classes()) {
            for (Field field : each.getDeclaredFields()) {
                Class<?> type = field.getType();
                boolean number = type == int.class || type == long.class;
                boolean row = type == int[].class || type == long[].class;
                boolean own = classes().contains(type);
                boolean constant = Modifier.isStatic(field.getModifiers());
                checks.dueTrue(field + " has a type that is none of these", number || row || own);
                checks.dueTrue(field + " is static and no constant number",
                        !constant || number && Modifier.isFinal(field.getModifiers()));
                checks.dueTrue(field + " may be another one later",
                        number || Modifier.isFinal(field.getModifiers()));
            }
        }
    }

    private static void words() {
        checks.promise("rules 4 to 6, 13");
        for (String word : FORBIDDEN) {
            checks.dueTrue("the text has " + word, !Pattern.compile(word).matcher(text).find());
        }
        checks.dueTrue("the text has signs above 127", StandardCharsets.US_ASCII.newEncoder().canEncode(text));
    }

    /** Each loop goes over an array, or it has a counter that steps by one towards a bound. */
    private static void loops() {
        checks.promise("rule 9");
        Matcher matcher = Pattern.compile("\\bfor \\((.*)\\) \\{").matcher(text);
        int told = 0;
        for (; matcher.find(); told++) {
            String loop = matcher.group(1);
            checks.dueTrue("no end is seen of: " + loop, loop.matches("(int|long) \\w+ : \\w+")
                    || loop.matches("int (\\w+) = [^;]*; \\1 <=? [^;]*; \\1\\+\\+")
                    || loop.matches("int (\\w+) = [^;]*; \\1 >=? [^;]*; \\1--"));
        }
        checks.due("loops", told, text.split("\\bfor\\b", -1).length - 1);
    }

    private static void limits() {
        checks.promise("rule 11");
        checks.dueTrue("there are too many classes", classes().size() <= MOST_CLASSES);
        for (Class<?> each : classes()) {
            int fields = 0;
            for (Field field : each.getDeclaredFields()) {
                fields += Modifier.isStatic(field.getModifiers()) ? 0 : 1;
            }
            checks.dueTrue(each + " has too many fields", fields <= MOST_FIELDS);
            for (Method method : each.getDeclaredMethods()) {
                checks.dueTrue(method + " takes too much", method.getParameterCount() <= MOST_PARAMETERS);
            }
            for (Constructor<?> constructor : each.getDeclaredConstructors()) {
                checks.dueTrue(constructor + " takes too much", constructor.getParameterCount() <= MOST_PARAMETERS);
            }
        }
    }

    private static void lengths() {
        checks.promise("rule 11, lengths");
        Matcher matcher = METHOD.matcher(text);
        int told = 0;
        for (; matcher.find(); told++) {
            int lines = matcher.group(3).split("\n").length;
            checks.dueTrue(matcher.group(2) + " has " + lines + " lines", lines <= MOST_LINES);
        }
        int methods = 1;
        for (Class<?> each : classes()) {
            methods += each.getDeclaredMethods().length;
        }
        checks.due("methods met in the text, with the constructor", told, methods);
    }

    /** One method calls itself, a task deeper each time; else few calls stand open at once. */
    private static void callsOpen() {
        checks.promise("rules 8 and 11, calls");
        Map<String, Set<String>> calls = callsByName();
        Set<String> callThemselves = new TreeSet<>();
        for (String name : calls.keySet()) {
            if (calls.get(name).remove(name)) {
                callThemselves.add(name);
            }
        }
        checks.dueTrue("these call themselves: " + callThemselves, callThemselves.equals(Set.of("assign")));
        checks.dueTrue("assign is not private and static", text.contains(" private static void assign("));
        checks.dueTrue("assign goes not a task deeper", text.contains(" assign(search, needs, task + 1, "));
        checks.dueTrue("assign goes deeper than there are tasks", text.contains("|| task >= MOST_TASKS) {"));
        for (String name : calls.keySet()) {
            checks.dueTrue(name + " goes too deep, or comes round to itself", isWithin(name, calls, MOST_CALLS_OPEN));
        }
    }

    /** For each method's name the names of the class's own methods that it calls; those of one name are as one. */
    private static Map<String, Set<String>> callsByName() {
        Map<String, Set<String>> calls = new TreeMap<>();
        for (Matcher method = METHOD.matcher(text); method.find();) {
            Matcher name = CALL.matcher(method.group(2));
            checks.dueTrue("no name in " + method.group(2), name.find());
            Set<String> called = calls.computeIfAbsent(name.group(1), unused -> new TreeSet<>());
            for (Matcher call = CALL.matcher(method.group(3)); call.find();) {
                called.add(call.group(1));
            }
        }
        for (Set<String> called : calls.values()) {
            called.retainAll(calls.keySet());
        }
        return calls;
    }

    private static boolean isWithin(String name, Map<String, Set<String>> calls, int most) {
        boolean within = most > 0;
        for (String called : calls.get(name)) {
            within = within && isWithin(called, calls, most - 1);
        }
        return within;
    }

    /** All rows are made with the object, so a run's calls take no room. */
    private static void nothingIsMadeInCalls() {
        checks.promise("rule 12 and the room");
        for (String line : text.split("\n")) {
            checks.dueTrue("made in a call: " + line,
                    !line.contains(" new ") || line.matches(" +private final .*= new .*;"));
            checks.dueTrue("copied in a call: " + line, !line.contains("copyOf") && !line.contains("clone"));
        }
    }
}
