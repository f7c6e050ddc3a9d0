import java.lang.reflect.Constructor;
import java.lang.reflect.Field;
import java.lang.reflect.Method;
import java.lang.reflect.Modifier;
import java.nio.charset.StandardCharsets;
import java.nio.file.Files;
import java.nio.file.Path;
import java.util.ArrayList;
import java.util.HashSet;
import java.util.List;
import java.util.Set;
import java.util.TreeSet;
import java.util.regex.Matcher;
import java.util.regex.Pattern;

/** The class has the document's face and no other, and its file keeps to LANGUAGE.md where that can be read off. */
public final class FaceTests {
    private static final String[] FACE = {
        "int hall(int,int)", "int moved(int,int)", "int choose(int,int)", "int chosen(int)", "int block(int)",
        "int form(int)", "int feed(long,int)", "int law(int,int)", "int price(int,int)", "int as(int,int)",
        "int part(int,int,int)", "int so(int,int,int,int)", "int breach(int)", "int kept()", "int find(int,int)",
        "int write(int)", "long rules(int)", "int may(int,int)", "int near(int)", "int word(int)",
        "int show(int,int)", "int check(int,int)", "int small(int)", "int few(int)", "int give(int,int)",
        "int follows(int,int)", "int spare(int)", "int same(int,int)", "int voice(int,int,int)", "int trace(int)",
        "int sheet(int,int,int)", "int put(int,int,int)", "int move(int,int,int,int,int)", "int image()",
        "int restore()", "int tell(int)", "int learn(int)", "int count(int)", "int told(int)",
    };
    private static final String[] RULED_OUT = {
        "throw", "throws", "try", "catch", "finally", "synchronized", "assert", "package", "protected", "equals",
        "hashCode", "toString", "System\\.(?!arraycopy)\\w+", "->", "::", "volatile", "Thread", "Random", "native",
        "Object", "var", "default:\\s*}", "while \\(true\\)", "for \\(;;\\)", "static \\{", "\\w+Exact",
    };

    private static int wrong = 0;

    private static void due(boolean so, String what) {
        if (!so) {
            wrong++;
            System.out.println(what);
        }
    }

    private static String spelled(Method method) {
        StringBuilder text = new StringBuilder();
        text.append(method.getReturnType().getName()).append(' ').append(method.getName()).append('(');
        String between = "";
        for (Class<?> type : method.getParameterTypes()) {
            text.append(between).append(type.getName());
            between = ",";
        }
        return text.append(')').toString();
    }

    private static void face() {
        Class<?> type = NineDemands.class;
        due(Modifier.isPublic(type.getModifiers()) && Modifier.isFinal(type.getModifiers()), "not public and final");
        due(type.getSuperclass() == Object.class && type.getInterfaces().length == 0, "it is something else too");
        Set<String> seen = new TreeSet<>();
        Set<String> names = new HashSet<>();
        for (Method method : type.getDeclaredMethods()) {
            if (Modifier.isPublic(method.getModifiers())) {
                seen.add(spelled(method));
                names.add(method.getName());
                due(!Modifier.isStatic(method.getModifiers()), method + " is static");
            }
        }
        due(seen.equals(new TreeSet<>(List.of(FACE))), "the face is " + seen);
        Constructor<?>[] makers = type.getDeclaredConstructors();
        due(makers.length == 1 && makers[0].getParameterCount() == 0, "another constructor");
        due(makers.length == 1 && Modifier.isPublic(makers[0].getModifiers()), "the constructor isn't public");
        hidden(type, names);
        for (Class<?> inside : type.getDeclaredClasses()) {
            due(Modifier.isStatic(inside.getModifiers()), inside + " isn't static");
            due(Modifier.isPrivate(inside.getModifiers()), inside + " isn't private");
            for (Method method : inside.getDeclaredMethods()) {
                due(!names.contains(method.getName()), method + " bears a public name");
                due(method.getParameterCount() <= 7, method + " takes too many");
            }
            fields(inside);
        }
        due(type.getDeclaredClasses().length <= 12, "too many classes");
        fields(type);
    }

    private static void hidden(Class<?> type, Set<String> names) {
        for (Method method : type.getDeclaredMethods()) {
            if (!Modifier.isPublic(method.getModifiers())) {
                due(Modifier.isPrivate(method.getModifiers()), method + " is seen");
                due(!names.contains(method.getName()), method + " bears a public name");
            }
        }
        for (Field field : type.getDeclaredFields()) {
            due(Modifier.isPrivate(field.getModifiers()), field + " is seen");
        }
    }

    private static void fields(Class<?> type) {
        int own = 0;
        for (Field field : type.getDeclaredFields()) {
            if (Modifier.isStatic(field.getModifiers())) {
                due(Modifier.isFinal(field.getModifiers()), field + " isn't final");
            } else {
                own++;
            }
        }
        due(own <= 20, type + " has too many fields");
    }

    private static String withoutComments(String source) {
        return source.replaceAll("(?s)/\\*.*?\\*/", "").replaceAll("//[^\n]*", "");
    }

    private static void language() throws Exception {
        byte[] bytes = Files.readAllBytes(Path.of("src/main/java/NineDemands.java"));
        for (byte b : bytes) {
            due(b > 0, "a sign that is no ASCII");
        }
        String source = withoutComments(new String(bytes, StandardCharsets.US_ASCII));
        for (String word : RULED_OUT) {
            String whole = Character.isLetter(word.charAt(0)) ? "\\b" + word + "\\b" : word;
            Matcher found = Pattern.compile(whole).matcher(source);
            due(!found.find(), "ruled out: " + word);
        }
        Matcher imports = Pattern.compile("import ([^;]+);").matcher(source);
        List<String> all = new ArrayList<>();
        while (imports.find()) {
            all.add(imports.group(1));
        }
        due(all.equals(List.of("java.util.Arrays")), "imports " + all);
        due(!Pattern.compile("new [A-Z]\\w*\\([^)]").matcher(source).find(), "rule 12: a maker is handed something");
        methodLengths(source);
    }

    /** A method begins with a line of its own that ends in a brace, and ends with one set in as far. */
    private static void methodLengths(String source) {
        Pattern head = Pattern.compile("( {4}| {8})(?!if|for|while|switch)[^ }].*\\) \\{");
        String[] lines = source.split("\n");
        int methods = 0;
        for (int start = 0; start < lines.length; start++) {
            Matcher found = head.matcher(lines[start]);
            if (!found.matches() || lines[start].contains(" class ")) {
                continue;
            }
            int end = start;
            while (!lines[end].equals(found.group(1) + "}")) {
                end++;
            }
            methods++;
            due(end - start < 60, "a method of " + (end - start + 1) + " lines: " + lines[start].trim());
        }
        due(methods > FACE.length, "only " + methods + " methods were found");
    }

    public static void main(String[] args) throws Exception {
        face();
        language();
        System.out.println(wrong == 0 ? "the face is as due" : wrong + " things are not as due");
        if (wrong != 0) System.exit(1);
    }
}
