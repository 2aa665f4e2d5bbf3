import java.io.IOException;
import java.nio.file.Files;
import java.nio.file.Path;
import java.util.ArrayList;
import java.util.LinkedHashMap;
import java.util.List;
import java.util.Map;

/** Tests that each stand under the words of the document that they are of. */
final class Sentences {
    private static final Path DOCUMENT = Path.of("../shared/DOC.md");

    private final Checks checks = new Checks();
    private final Map<String, List<String>> tested = new LinkedHashMap<>();
    private String heading = "";
    private int tests;

    Checks checks() {
        return checks;
    }

    /** Says under which heading the words stand of the tests that follow. */
    void under(String name) {
        heading = name;
        tested.putIfAbsent(name, new ArrayList<>());
    }

    void test(String words, String edge, Runnable test) {
        tested.get(heading).add(words);
        checks.promise(heading + ", \"" + words + "\" (" + edge + ")");
        int before = checks.asked();
        test.run();
        checks.dueTrue("nothing was asked", checks.asked() > before);
        tests++;
    }

    /** Ends the program, with 1 if an answer was wrong or words of the document have no test. */
    void end() throws IOException {
        checks.promise("the document");
        Map<String, String> sections = sections();
        for (String name : tested.keySet()) {
            for (String words : tested.get(name)) {
                checks.dueTrue("under \"" + name + "\" there is no \"" + words + "\"",
                        sections.getOrDefault(name, "").contains(words));
            }
        }
        for (String name : sections.keySet()) {
            if (name.equals("Terms") || name.startsWith("Promise ")) {
                eachClauseIsTested(name, sections.get(name));
            }
        }
        System.out.println(tests + " tests of sentences");
        checks.end();
    }

    private void eachClauseIsTested(String name, String section) {
        // A promise tells its call's face first, between signs of code.
        String text = section.replaceFirst("^`[^`]*`:", "").replaceAll("Ahead of the calls.*", "");
        for (String part : text.split("(?<!\\.)\\.(?!\\.)|[;()]")) {
            String clause = part.replaceAll("^[ :,]+|[ :,]+$", "");
            boolean met = clause.isEmpty();
            for (String words : tested.getOrDefault(name, List.of())) {
                met |= words.contains(clause) || clause.contains(words);
            }
            checks.dueTrue("under \"" + name + "\" there is no test of \"" + clause + "\"", met);
        }
    }

    private static Map<String, String> sections() throws IOException {
        Map<String, String> sections = new LinkedHashMap<>();
        for (String part : Files.readString(DOCUMENT).split("(?m)^## ")) {
            int end = part.indexOf('\n');
            if (end > 0) {
                sections.put(part.substring(0, end).strip(), plain(part.substring(end)));
            }
        }
        return sections;
    }

    private static String plain(String text) {
        return text.replaceAll("```(text)?", " ").replaceAll("======== \\d ", " ").replaceAll("\\s+", " ").strip();
    }
}
