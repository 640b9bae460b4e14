import java.io.IOException;
import java.lang.reflect.Method;
import java.nio.charset.StandardCharsets;
import java.nio.file.Files;
import java.nio.file.Path;
import java.util.LinkedHashMap;
import java.util.List;
import java.util.Map;

/**
 * Holds the tests of edges against the document itself: each says words that stand in the section that it names,
 * it bears that section's name, and no words of the terms and promises are left that no test says.
 */
public final class EdgesCoverTheDocument {
    private static final Path DOCUMENT = Path.of("../shared/DOC.md");
    static final List<Class<?>> TESTS = List.of(EdgesTerms1.class, EdgesTerms2.class, EdgesTerms3.class,
            EdgesTerms4.class, EdgesPromises01To10.class, EdgesPromises11To21.class, EdgesPromises22To28.class);
    private static final List<String> PARTS = List.of("I", "II", "III", "IV");
    private static int wrong = 0;

    private EdgesCoverTheDocument() {
    }

    private static void fail(String what) {
        wrong++;
        System.out.println(what);
    }

    public static void main(String[] args) throws IOException {
        if (!Files.exists(DOCUMENT)) {
            System.out.println("no " + DOCUMENT + " here, so the tests aren't held against it");
            return;
        }
        Map<String, StringBuilder> sections = sections(Files.readString(DOCUMENT, StandardCharsets.UTF_8));
        Map<String, StringBuilder> left = new LinkedHashMap<>();
        sections.forEach((name, text) -> left.put(name, new StringBuilder(text)));
        int tests = 0;
        for (Class<?> c : TESTS) {
            for (Method test : Edges.of(c)) {
                tests++;
                check(test, sections, left);
            }
        }
        for (Map.Entry<String, StringBuilder> one : left.entrySet()) {
            String rest = one.getValue().toString().replaceAll("[^A-Za-z0-9]+", " ").trim();
            if (!rest.isEmpty()) {
                fail("no test says of \"" + one.getKey() + "\": " + rest);
            }
        }
        if (wrong > 0) {
            System.exit(1);
        }
        System.out.println(tests + " edges say all sentences of the terms and of " + promises(sections) + " promises");
    }

    private static long promises(Map<String, StringBuilder> sections) {
        return sections.keySet().stream().filter(name -> name.startsWith("Promise ")).count();
    }

    private static void check(Method test, Map<String, StringBuilder> sections, Map<String, StringBuilder> left) {
        Says says = test.getAnnotation(Says.class);
        StringBuilder section = sections.get(says.at());
        if (section == null) {
            fail(test.getName() + ": the document has no section \"" + says.at() + "\"");
            return;
        }
        if (!test.getName().startsWith(prefix(says.at()))) {
            fail(test.getName() + " isn't named after \"" + says.at() + "\"");
        }
        for (String words : says.value()) {
            int from = section.indexOf(words);
            if (from < 0) {
                fail(test.getName() + ": \"" + says.at() + "\" doesn't say \"" + words + "\"");
            }
            while (from >= 0) {
                StringBuilder rest = left.get(says.at());
                for (int i = from; i < from + words.length(); i++) {
                    rest.setCharAt(i, ' ');
                }
                from = section.indexOf(words, from + 1);
            }
        }
    }

    /** How the tests of a section begin: promise07_, terms2_. */
    private static String prefix(String section) {
        if (section.startsWith("Promise ")) {
            return String.format("promise%02d_", Integer.parseInt(section.substring(8, section.indexOf(':'))));
        }
        if (section.startsWith("Terms ")) {
            return "terms" + (1 + PARTS.indexOf(section.substring(6))) + "_";
        }
        return "whatItIs_";
    }

    /** The terms by their parts, and each promise without its head; of what comes ahead the sentence about 512 calls. */
    private static Map<String, StringBuilder> sections(String document) {
        Map<String, StringBuilder> sections = new LinkedHashMap<>();
        for (String piece : document.split("(?m)^## ")) {
            String name = piece.lines().findFirst().orElse("").trim();
            String text = piece.substring(Math.min(piece.length(), name.length())).replaceAll("```\\w*", " ")
                    .replaceAll("\\s+", " ");
            if (name.equals("What it is")) {
                sections.put(name, new StringBuilder(text.substring(Math.max(0, text.indexOf("An object is used")))));
            } else if (name.equals("Terms")) {
                String[] parts = text.split("==== [IV]+\\.");
                for (int i = 0; i < parts.length; i++) {
                    sections.put("Terms " + PARTS.get(i), new StringBuilder(parts[i]));
                }
            } else if (name.startsWith("Promise ")) {
                sections.put(name, new StringBuilder(text.replaceFirst("`[^`]*`:", " ")));
            }
        }
        return sections;
    }
}
