import java.lang.reflect.Method;
import java.nio.charset.StandardCharsets;
import java.nio.file.Files;
import java.nio.file.Path;
import java.util.ArrayList;
import java.util.LinkedHashMap;
import java.util.List;
import java.util.Map;

/** Each sentence of the document has a test that names it, and each test names words that stand there. */
public final class SentenceTests {
    private static final Class<?>[] TESTS = {
        EdgeTermsTests.class, EdgeTextsTests.class, EdgeHallsTests.class, EdgeLawsTests.class, EdgeRulesTests.class,
        EdgeShowingTests.class, EdgeVoicesTests.class, EdgeRefusedTests.class,
    };
    private static final int PROMISES = 40;
    private static final int TERMS = 6;

    private static int wrong = 0;

    private static void due(boolean so, String what) {
        if (!so) {
            wrong++;
            System.out.println(what);
        }
    }

    /** A full stop ends a sentence if it stands behind a word or a bracket, and nothing but room behind it. */
    private static List<String> sentences(String text) {
        List<String> all = new ArrayList<>();
        for (String one : text.replaceAll("\\s+", " ").split("(?<=[\\w)}])\\.( |$)")) {
            if (!one.isBlank()) {
                all.add(one.strip());
            }
        }
        return all;
    }

    private static String between(String text, String from, String to) {
        int start = text.indexOf(from);
        int end = start < 0 ? -1 : text.indexOf(to, start + from.length());
        return start < 0 ? "" : text.substring(start + from.length(), end < 0 ? text.length() : end);
    }

    private static Map<String, List<String>> document() throws Exception {
        String text = Files.readString(Path.of("../shared/DOC.md"), StandardCharsets.UTF_8);
        Map<String, List<String>> parts = new LinkedHashMap<>();
        String used = between(text, "## What it is", "## The public face");
        parts.put("What it is", sentences(used.substring(used.indexOf("An object is used"))));
        String terms = between(text, "## Terms", "Ahead of the calls").replace("```text", "").replace("```", "");
        parts.put("Terms ERRORS", sentences(between(terms, "", "\n1. ")));
        for (int n = 1; n <= TERMS; n++) {
            parts.put("Terms " + n, sentences(between(terms, "\n" + n + ". ", "\n" + (n + 1) + ". ")));
        }
        for (int n = 1; n <= PROMISES; n++) {
            String promise = between(text, "## Promise " + n + ": ", "\n## ");
            parts.put("Promise " + n, sentences(between(promise, "`: ", "\n## ")));
        }
        return parts;
    }

    public static void main(String[] args) throws Exception {
        Map<String, List<String>> parts = document();
        Map<String, List<String>> named = new LinkedHashMap<>();
        int tests = 0;
        for (Class<?> one : TESTS) {
            for (Method test : Edge.testsOf(one)) {
                Says says = test.getAnnotation(Says.class);
                named.computeIfAbsent(says.in(), in -> new ArrayList<>()).add(says.words());
                List<String> there = parts.getOrDefault(says.in(), List.of());
                boolean stands = there.stream().anyMatch(sentence -> sentence.contains(says.words()));
                due(stands, test.getName() + " names what isn't said in " + says.in() + ": " + says.words());
                tests++;
            }
        }
        int sentences = 0;
        for (Map.Entry<String, List<String>> part : parts.entrySet()) {
            due(!part.getValue().isEmpty(), part.getKey() + " wasn't found");
            List<String> words = named.getOrDefault(part.getKey(), List.of());
            for (String sentence : part.getValue()) {
                due(words.stream().anyMatch(sentence::contains), part.getKey() + " has no test for: " + sentence);
                sentences++;
            }
        }
        System.out.println(sentences + " sentences, " + tests + " tests that name one, " + wrong + " things wrong");
        if (wrong != 0) System.exit(1);
    }
}
