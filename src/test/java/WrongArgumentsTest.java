import java.lang.reflect.InvocationTargetException;
import java.lang.reflect.Method;
import java.lang.reflect.Modifier;
import java.util.ArrayList;
import java.util.Comparator;
import java.util.List;
import java.util.Random;

/** Calls every method with any arguments in any state: none may throw, and none that fails may change a thing. */
public final class WrongArgumentsTest {
    private static final int[] EXTREMES = {Integer.MIN_VALUE, Integer.MIN_VALUE + 1, -1000, -10, -9, -3, -2, -1, 8, 9, 10,
        11, 13, 31, 32, 33, 64, 79, 80, 81, 127, 128, 255, 256, 8191, 8192, 65536, Integer.MAX_VALUE - 1, Integer.MAX_VALUE};
    private static final String BYTES = "aaabbcdm0123((())),,,**n~";

    public static void main(String[] args) throws IllegalAccessException {
        Check check = new Check();
        List<Method> methods = new ArrayList<>();
        for (Method m : LeastPatterns.class.getDeclaredMethods()) {
            if (Modifier.isPublic(m.getModifiers())) {
                methods.add(m);
            }
        }
        methods.sort(Comparator.comparing(Method::getName));
        check.due("methods", methods.size(), 21);
        for (long seed = 0; seed < 300; seed++) {
            Random random = new Random(seed);
            LeastPatterns x = new LeastPatterns();
            for (int call = 0; call < 1000; call++) {
                if (random.nextInt(4) == 0) {
                    feed(x, random);
                }
                call(check, x, methods.get(random.nextInt(methods.size())), random);
            }
        }
        check.end();
    }

    /** Types something that is a term at times, and puts it. */
    private static void feed(LeastPatterns x, Random random) {
        String[] texts = {"a(b,c)", "a(0,1*)", "0(1*)", "a(b(0),2(c))", "a", "7", "a(b,b,b,b,b,b,b,b)", "a(a(a(a(a(a(a(b)))))))",
            "a(b(c,c,c,c,c,c,c),b(c,c,c,c,c,c,c),b(c,c,c,c,c,c,c),b(c,c,c,c,c,c))", "a(a(0*),b(0*))"};
        x.clear();
        if (random.nextInt(4) > 0) {
            Check.typeText(x, texts[random.nextInt(texts.length)]);
        } else {
            for (int n = random.nextInt(90); n > 0; n--) {
                x.type(BYTES.charAt(random.nextInt(BYTES.length())));
            }
        }
        x.put(random.nextInt(8));
    }

    private static void call(Check check, LeastPatterns x, Method method, Random random) throws IllegalAccessException {
        Object[] arguments = new Object[method.getParameterCount()];
        boolean wild = random.nextInt(3) == 0;
        for (int k = 0; k < arguments.length; k++) {
            arguments[k] = wild && random.nextInt(2) == 0 ? EXTREMES[random.nextInt(EXTREMES.length)]
                    : random.nextInt(random.nextInt(10) == 0 ? 300 : 8);
        }
        String before = state(x);
        try {
            long answer = ((Number) method.invoke(x, arguments)).longValue();
            boolean error = answer == LeastPatterns.BAD || answer == LeastPatterns.STATE || answer == LeastPatterns.FULL;
            if (error && !method.getName().equals("digest")) {
                check.due(method.getName() + " with an error changes nothing; the state", state(x), before);
            }
        } catch (InvocationTargetException e) {
            check.due(method.getName() + List.of(arguments) + " threw " + e.getCause(), 1, 0);
        }
    }

    private static String state(LeastPatterns x) {
        StringBuilder state = new StringBuilder(Check.showAll(x));
        for (int what = 0; what <= 7; what++) {
            state.append(' ').append(x.told(what));
        }
        return state.append(' ').append(x.fault()).toString();
    }
}
