import java.lang.reflect.InvocationTargetException;
import java.lang.reflect.Method;
import java.util.ArrayList;
import java.util.Comparator;
import java.util.List;
import java.util.function.Supplier;

/** What the tests of single sentences share: how they are run, and how villages are made for them. */
final class Edge {
    static final int LOW = -1000000;
    static final int BEYOND = -1000001;
    static final int NONE = -1000002;
    static final int STATE = -1000003;
    static final int FULL = -1000004;
    static final int KIND = -1000005;
    static final int LEAST = Integer.MIN_VALUE;
    static final int GREATEST = Integer.MAX_VALUE;

    private static final List<String> WRONG = new ArrayList<>();

    private Edge() {
    }

    static void due(String call, long want, long got) {
        if (got != want) {
            WRONG.add(call + " answered " + got + ", due is " + want);
        }
    }

    /** Runs each test of a class by itself; ends the program with 1 if one fails. */
    static void run(Class<?> tests) {
        int failed = 0;
        List<Method> all = testsOf(tests);
        for (Method test : all) {
            WRONG.clear();
            try {
                test.setAccessible(true);
                test.invoke(null);
            } catch (InvocationTargetException thrown) {
                WRONG.add("threw " + thrown.getCause());
            } catch (IllegalAccessException hidden) {
                WRONG.add("can't be called");
            }
            if (!WRONG.isEmpty()) {
                failed++;
                Says says = test.getAnnotation(Says.class);
                System.out.println(says.in() + ", \"" + says.words() + "\", " + test.getName() + ":");
                WRONG.forEach(wrong -> System.out.println("    " + wrong));
            }
        }
        System.out.println(all.size() + " sentences tested, " + failed + " don't hold");
        if (failed != 0 || all.isEmpty()) {
            System.exit(1);
        }
    }

    static List<Method> testsOf(Class<?> tests) {
        List<Method> all = new ArrayList<>();
        for (Method method : tests.getDeclaredMethods()) {
            if (method.isAnnotationPresent(Says.class)) {
                all.add(method);
            }
        }
        all.sort(Comparator.comparing(Method::getName));
        return all;
    }

    /** The bytes of at most 8 signs, the first the lowest. */
    static long word(String signs) {
        long word = 0;
        for (int i = signs.length() - 1; i >= 0; i--) {
            word = word << 8 | signs.charAt(i);
        }
        return word;
    }

    static void feed(NineDemands x, String text) {
        for (int at = 0; at < text.length(); at += 8) {
            int n = Math.min(8, text.length() - at);
            x.feed(word(text.substring(at, at + n)), n);
        }
    }

    static int law(NineDemands x, int kind, int price, String text) {
        feed(x, text);
        return x.law(kind, price);
    }

    /** A new village with LAWS of KIND 0 that have these TEXTS and PRICE 1. */
    static NineDemands withTexts(String... texts) {
        NineDemands x = new NineDemands();
        for (String text : texts) {
            law(x, 0, 1, text);
        }
        return x;
    }

    /** LAW 0 of KIND 0, 1 of KIND 1 .. 5 of KIND 5; their TEXTS are true, their PRICES 10 to 15. */
    static NineDemands ofAllKinds() {
        NineDemands x = new NineDemands();
        for (int kind = 0; kind < 6; kind++) {
            boolean hasText = kind == 0 || kind == 1 || kind == 4;
            law(x, kind, 10 + kind, hasText ? "1" : "");
        }
        return x;
    }

    /**
     * LAWS 0 all want A: A; 1 all want B: B; 2 ALIKE; 3 TURNED; 4 SINGLE; PRICES 5, 7, 3, 2, 9.
     * A SET of them is OUT if 2, 3 and 4 are of it, and only then.
     */
    static NineDemands five() {
        NineDemands x = new NineDemands();
        law(x, 0, 5, "b|c=1");
        law(x, 0, 7, "a|c=2");
        x.law(2, 3);
        x.law(3, 2);
        x.law(5, 9);
        return x;
    }

    static void sheet(NineDemands x, int sheet, int bits, int... numbers) {
        x.sheet(sheet, bits, numbers.length);
        for (int i = 0; i < numbers.length; i++) {
            x.put(sheet, i, numbers[i]);
        }
    }

    /** THE TOLD RULE as a text of 12 digits. */
    static String rule(NineDemands x) {
        StringBuilder digits = new StringBuilder();
        for (int h = 0; h < 12; h++) {
            digits.append(x.chosen(h));
        }
        return digits.toString();
    }

    static void dueRule(String when, String want, NineDemands x) {
        String got = rule(x);
        if (!got.equals(want)) {
            WRONG.add("THE TOLD RULE " + when + " is " + got + ", due is " + want);
        }
    }

    static void tellRule(NineDemands x, String digits) {
        for (int h = 0; h < 12; h++) {
            x.choose(h, digits.charAt(h) - '0');
        }
    }

    static void dueTold(NineDemands x, int... want) {
        for (int k = 1; k <= 5; k++) {
            due("told(" + k + ")", want[k - 1], x.told(k));
        }
    }

    /** What the LAWS of a village don't allow, read CASE by CASE: rows of h, k, c, d (k is h if there is none). */
    static List<int[]> notSo(Supplier<NineDemands> made) {
        List<int[]> all = new ArrayList<>();
        int laws = made.get().count(0);
        for (int law = 0; law < laws; law++) {
            NineDemands x = made.get();
            int cases = x.as(law, 0);
            for (int i = 0; i < cases; i++) {
                int h = x.part(law, i, 0);
                int k = x.part(law, i, 1);
                for (int two = 0; two < 9; two++) {
                    int c = 1 + two / 3;
                    int d = 1 + two % 3;
                    boolean asked = k >= 0 || c == d;
                    if (asked && x.so(law, i, c, d) == 0) {
                        all.add(new int[] {h, k >= 0 ? k : h, c, d});
                    }
                }
            }
        }
        return all;
    }

    /** How many PEOPLE a HALL has, and what each of them wants, told here once more. */
    static int peopleIn(int hall) {
        return hall < 4 ? 2 : 3;
    }

    static int wants(int hall, int person) {
        int bits = hall < 4 ? hall : hall - 4;
        if (person >= peopleIn(hall)) {
            return 2;
        }
        return (bits & 1 << person) != 0 ? 1 : 0;
    }

    static int howManyWant(int hall, int thing) {
        int n = 0;
        for (int person = 0; person < 3; person++) {
            n += wants(hall, person) == thing ? 1 : 0;
        }
        return n;
    }
}
