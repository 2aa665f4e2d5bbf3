import java.io.IOException;
import java.lang.reflect.Constructor;
import java.lang.reflect.Field;
import java.lang.reflect.Method;
import java.lang.reflect.Modifier;
import java.nio.file.Files;
import java.nio.file.Path;
import java.util.ArrayList;
import java.util.List;
import java.util.regex.Matcher;
import java.util.regex.Pattern;

/** The public face as the document writes it: it stands so in the class, and nothing else is open. */
public final class FaceTest {
    private static final Path DOCUMENT = Path.of("../shared/DOC.md");
    private static final Path SOURCE = Path.of("src/main/java/DesignTurns.java");
    private static final String OPEN_CALL = "(?m)^    public \\w+ (\\w+)\\(.*\\{$";

    private static final Checks checks = new Checks();
    private static String document;
    private static String source;

    public static void main(String[] args) throws IOException, ReflectiveOperationException {
        document = Files.readString(DOCUMENT);
        source = Files.readString(SOURCE);
        classItself();
        constants();
        constructor();
        calls();
        nothingElseIsOpen();
        headings();
        checks.end();
    }

    private static void classItself() {
        checks.promise("the face, class");
        checks.dueTrue("the class is public and final and no more",
                DesignTurns.class.getModifiers() == (Modifier.PUBLIC | Modifier.FINAL));
        checks.dueTrue("the document writes the class so", face().get(0).equals("public final class DesignTurns {"));
        checks.dueTrue("the text writes the class so", source.contains("\npublic final class DesignTurns {\n"));
        checks.dueTrue("the class has no package", DesignTurns.class.getPackageName().isEmpty());
        checks.dueTrue("nothing stands above it or beside it", DesignTurns.class.getSuperclass() == Object.class
                && DesignTurns.class.getInterfaces().length == 0);
    }

    /** The lines of the document's face that are written in Java. */
    private static List<String> face() {
        List<String> lines = new ArrayList<>();
        Matcher matcher = Pattern.compile("(?s)## The public face\\s+```java\n(.*?)```").matcher(document);
        if (matcher.find()) {
            for (String line : matcher.group(1).split("\n")) {
                lines.add(line.strip());
            }
        }
        return lines;
    }

    private static List<String> facesOf(String kind) {
        List<String> lines = new ArrayList<>();
        for (String line : face()) {
            if (line.matches(kind)) {
                lines.add(line);
            }
        }
        return lines;
    }

    private static void constants() throws ReflectiveOperationException {
        checks.promise("the face, constants");
        int told = 0;
        for (String line : facesOf("public static final int .*;")) {
            Matcher matcher = Pattern.compile("(\\w+) = (-?\\d+)").matcher(line);
            for (; matcher.find(); told++) {
                Field field = DesignTurns.class.getDeclaredField(matcher.group(1));
                checks.dueTrue(field + " is not a public constant of int", field.getType() == int.class
                        && field.getModifiers() == (Modifier.PUBLIC | Modifier.STATIC | Modifier.FINAL));
                checks.due(field.getName(), field.getInt(null), Integer.parseInt(matcher.group(2)));
            }
        }
        checks.due("constants of the document", told, 5);
        checks.due("open constants and fields", DesignTurns.class.getFields().length, told);
    }

    private static void constructor() {
        checks.promise("the face, constructor");
        checks.due("constructors of the document", facesOf("public DesignTurns\\(\\);").size(), 1);
        Constructor<?>[] constructors = DesignTurns.class.getDeclaredConstructors();
        checks.due("constructors", constructors.length, 1);
        checks.due("what the constructor is given", constructors[0].getParameterCount(), 0);
        checks.dueTrue("the constructor is public", Modifier.isPublic(constructors[0].getModifiers()));
    }

    private static void calls() {
        checks.promise("the face, calls");
        List<String> told = facesOf("public \\w+ \\w+\\(.*\\);");
        checks.due("calls of the document", told.size(), 25);
        for (String line : told) {
            String start = line.substring(0, line.length() - 1) + " {";
            checks.dueTrue("the text has no " + start, source.contains("\n    " + start + "\n"));
        }
        int open = 0;
        for (Method method : DesignTurns.class.getDeclaredMethods()) {
            if (Modifier.isPublic(method.getModifiers())) {
                open++;
                checks.dueTrue(method + " is public and no more", method.getModifiers() == Modifier.PUBLIC);
            }
        }
        checks.due("open calls", open, told.size());
    }

    private static void nothingElseIsOpen() {
        checks.promise("the face, nothing else");
        for (Method method : DesignTurns.class.getDeclaredMethods()) {
            int modifiers = method.getModifiers();
            checks.dueTrue(method + " is not private", Modifier.isPublic(modifiers) || Modifier.isPrivate(modifiers));
        }
        for (Field field : DesignTurns.class.getDeclaredFields()) {
            int modifiers = field.getModifiers();
            checks.dueTrue(field + " is not private", Modifier.isPublic(modifiers) || Modifier.isPrivate(modifiers));
        }
    }

    /** "Ahead of the calls .. the interface says": the words stand in the text ahead of just these calls. */
    private static void headings() {
        checks.promise("the face, headings");
        Matcher matcher = Pattern.compile("Ahead of the calls (.*) the interface says: (.*)\\.").matcher(document);
        int told = 0;
        for (; matcher.find(); told++) {
            String heading = "\n    // " + matcher.group(2) + "\n";
            int start = source.indexOf(heading);
            checks.dueTrue("the text says once: " + matcher.group(2),
                    start >= 0 && start == source.lastIndexOf(heading));
            List<String> calls = List.of(matcher.group(1).replace("`", "").split(", "));
            checks.dueTrue("behind \"" + matcher.group(2) + "\" there stand not " + calls,
                    callsBehind(start + heading.length()).equals(calls));
        }
        checks.due("headings of the document", told, 4);
    }

    /** The names of the open calls from there on to the next heading. */
    private static List<String> callsBehind(int start) {
        int end = source.indexOf("// ----", Math.max(start, 0));
        Matcher matcher = Pattern.compile(OPEN_CALL).matcher(source.substring(Math.max(start, 0),
                end < 0 ? source.length() : end));
        List<String> names = new ArrayList<>();
        for (; matcher.find();) {
            names.add(matcher.group(1));
        }
        return names;
    }
}
