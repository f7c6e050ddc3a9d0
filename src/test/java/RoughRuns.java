import java.lang.reflect.Method;
import java.lang.reflect.Modifier;
import java.util.ArrayList;
import java.util.Arrays;
import java.util.Comparator;
import java.util.List;
import java.util.Random;

/** Every method with any arguments, the wildest too, in any order: nothing throws, all is as in PlainVillage. */
public final class RoughRuns {
    private static final int[] ROUGH = {
        Integer.MIN_VALUE, Integer.MIN_VALUE + 1, -1000001, -257, -100, -49, -13, -12, -3, -2, -1, 12, 13, 15, 16, 20,
        21, 31, 32, 33, 39, 40, 41, 48, 50, 63, 64, 99, 100, 127, 128, 147, 255, 256, 257, 383, 384, 65536, 65537,
        Integer.MAX_VALUE - 1, Integer.MAX_VALUE,
    };
    private static final String[] WORDS = {"c", "c=1", "c=d", "!(c=d)", "c<3", "c=w+1", "i|c=d", "(c", "c=p+1", "c+d>2"};

    private static int wrong = 0;

    private static long word(String text) {
        long word = 0;
        for (int i = text.length() - 1; i >= 0; i--) {
            word = word << 8 | text.charAt(i);
        }
        return word;
    }

    private static Object[] arguments(Method method, Random random, boolean rough) {
        Object[] arguments = new Object[method.getParameterCount()];
        String text = WORDS[random.nextInt(WORDS.length)];
        for (int i = 0; i < arguments.length; i++) {
            boolean wild = rough && random.nextInt(3) == 0;
            int tame = random.nextInt(random.nextBoolean() ? 4 : 12);
            arguments[i] = wild ? ROUGH[random.nextInt(ROUGH.length)] : tame;
            if (method.getParameterTypes()[i] == long.class) {
                arguments[i] = wild ? random.nextLong() : word(text);
            } else if (method.getName().equals("feed") && !wild) {
                arguments[i] = text.length();
            }
        }
        return arguments;
    }

    private static void run(int run, List<Method> methods) throws Exception {
        Random random = new Random(31L * run + 5);
        NineDemands program = new NineDemands();
        PlainVillage plain = new PlainVillage();
        for (int n = 0; n < 512; n++) {
            Method method = methods.get(random.nextInt(methods.size()));
            if (n < 60 && random.nextInt(3) > 0) {
                String name = random.nextBoolean() ? "feed" : "law";
                method = methods.stream().filter(m -> m.getName().equals(name)).findFirst().get();
            }
            Object[] arguments = arguments(method, random, n > 40 || random.nextInt(8) == 0);
            Method same = PlainVillage.class.getDeclaredMethod(method.getName(), method.getParameterTypes());
            long want = ((Number) same.invoke(plain, arguments)).longValue();
            String call = method.getName() + Arrays.toString(arguments);
            try {
                long got = ((Number) method.invoke(program, arguments)).longValue();
                if (got != want) {
                    wrong++;
                    System.out.println("run " + run + ": " + call + " answered " + got + ", due is " + want);
                }
            } catch (java.lang.reflect.InvocationTargetException thrown) {
                wrong++;
                System.out.println("run " + run + ": " + call + " threw " + thrown.getCause());
            }
        }
    }

    public static void main(String[] args) throws Exception {
        int from = args.length > 0 ? Integer.parseInt(args[0]) : 0;
        int to = args.length > 1 ? Integer.parseInt(args[1]) : 60;
        List<Method> methods = new ArrayList<>();
        for (Method method : NineDemands.class.getDeclaredMethods()) {
            if (Modifier.isPublic(method.getModifiers())) {
                methods.add(method);
            }
        }
        methods.sort(Comparator.comparing(Method::getName));
        for (int run = from; run < to; run++) {
            run(run, methods);
        }
        System.out.println(wrong == 0 ? "all rough answers are as due" : wrong + " answers are not as due");
        if (wrong != 0) System.exit(1);
    }
}
