import java.lang.reflect.InvocationTargetException;
import java.lang.reflect.Method;
import java.nio.charset.StandardCharsets;
import java.nio.file.Files;
import java.nio.file.Path;
import java.util.HashSet;
import java.util.List;
import java.util.Set;
import java.util.regex.Matcher;
import java.util.regex.Pattern;

/** What README.md says that calls answer, they answer; and it shows every call of the face. */
public final class ReadmeTests {
    private static final Pattern CALL = Pattern.compile("village\\.(\\w+)\\(([^)]*)\\); +// (-?\\d+)(: .+)?");
    private static final String MAKING = "NineDemands village = new NineDemands();";

    private static int wrong = 0;
    private static final Set<String> SHOWN = new HashSet<>();

    private static void due(boolean so, String what) {
        if (!so) {
            wrong++;
            System.out.println(what);
        }
    }

    private static long answer(NineDemands village, String name, String told) throws ReflectiveOperationException {
        String[] words = told.isEmpty() ? new String[0] : told.split(", ");
        for (Method method : NineDemands.class.getMethods()) {
            if (method.getDeclaringClass() == NineDemands.class && method.getName().equals(name)) {
                Object[] arguments = new Object[words.length];
                for (int i = 0; i < words.length; i++) {
                    if (words[i].endsWith("L")) {
                        arguments[i] = Long.valueOf(words[i].replace("L", ""));
                    } else {
                        arguments[i] = Integer.valueOf(words[i]);
                    }
                }
                return ((Number) method.invoke(village, arguments)).longValue();
            }
        }
        throw new NoSuchMethodException(name);
    }

    private static void run(List<String> lines) throws ReflectiveOperationException {
        NineDemands village = null;
        boolean inside = false;
        int calls = 0;
        for (String line : lines) {
            boolean fence = line.startsWith("```");
            boolean begins = fence && !inside;
            inside = fence ? line.equals("```java") : inside;
            due(!begins || inside, "a fence of another kind: " + line);
            if (!inside || fence) {
                continue;
            }
            if (line.equals(MAKING)) {
                village = new NineDemands();
                continue;
            }
            Matcher call = CALL.matcher(line);
            if (village == null || !call.matches()) {
                due(false, "no call with its answer: " + line);
                continue;
            }
            long got = answer(village, call.group(1), call.group(2));
            due(got == Long.parseLong(call.group(3)), "answered " + got + ": " + line);
            SHOWN.add(call.group(1));
            calls++;
        }
        due(calls <= 512, calls + " calls on one object");
    }

    public static void main(String[] args) throws Exception {
        List<String> lines = Files.readAllLines(Path.of("README.md"), StandardCharsets.UTF_8);
        try {
            run(lines);
        } catch (InvocationTargetException thrown) {
            due(false, "threw " + thrown.getCause());
        }
        for (Method method : NineDemands.class.getMethods()) {
            boolean own = method.getDeclaringClass() == NineDemands.class;
            due(!own || SHOWN.contains(method.getName()), "README.md doesn't show " + method.getName());
        }
        String text = String.join("\n", lines);
        due(text.contains(".ci/run"), "README.md doesn't say how to run the tests");
        try (var files = Files.list(Path.of("src/test/java"))) {
            for (Path file : files.toList()) {
                String name = file.getFileName().toString().replace(".java", "");
                boolean test = name.endsWith("Tests") || name.endsWith("Runs");
                due(!test || text.contains("`" + name + "`"), "README.md doesn't tell of " + name);
            }
        }
        System.out.println(wrong == 0 ? "README.md says what is so" : wrong + " things are not as README.md says");
        if (wrong != 0) System.exit(1);
    }
}
