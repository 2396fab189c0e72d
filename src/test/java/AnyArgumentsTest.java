import java.lang.reflect.InvocationTargetException;
import java.lang.reflect.Method;
import java.util.Arrays;
import java.util.Comparator;
import java.util.Random;

/** Whatever is asked in whatever state: a call answers, or throws what its line of the face names. */
public final class AnyArgumentsTest {
    private static final int[] NUMBERS = {Integer.MIN_VALUE, Integer.MIN_VALUE + 1, -2, -1, -1, 0, 0, 0, 1, 1, 2, 3, 4, 5, 6, 7,
        8, 9, 10, 11, 12, 16, 19, 20, 21, 22, 39, 40, 41, 63, 64, 79, 80, 99, 100, 101, 150, 151, 700, 701, 1000, 9999, 10000,
        Integer.MAX_VALUE - 1, Integer.MAX_VALUE};
    private static final String[] LINES = {"upright 5 0 40;", "level 7 3 30 loss 20;", "barn 3 3;", "barn 20 20 years 1 3;",
        "wood 0 0 9 9 10 20 100;", "hears 0;", "air 50;", "air 150;", "upright 9 1 0;", "x"};

    public static void main(String[] args) throws IllegalAccessException {
        Method[] methods = ClapValley.class.getMethods();
        // Reflection tells the methods in no order; the same calls must come in each run of the test.
        Arrays.sort(methods, Comparator.comparing(Method::getName));
        for (int run = 0; run < 60; run++) {
            Random random = new Random(run);
            ClapValley valley = new ClapValley();
            for (int call = 0; call < 512; call++) {
                Method method = methods[random.nextInt(methods.length)];
                if (method.getDeclaringClass() == ClapValley.class) {
                    oneCall(valley, method, random);
                }
                if (random.nextInt(20) == 0) {
                    tellSomething(valley, random);
                }
            }
        }
        Check.end();
    }

    private static void tellSomething(ClapValley valley, Random random) {
        StringBuilder text = new StringBuilder();
        for (int k = random.nextInt(30); k >= 0; k--) {
            text.append(LINES[random.nextInt(random.nextInt(4) == 0 ? 10 : 5)]);
        }
        Check.feed(valley, text.toString());
        valley.land(random.nextInt(6), Math.min(text.length(), valley.count(0)));
    }

    private static void oneCall(ClapValley valley, Method method, Random random) throws IllegalAccessException {
        Object[] arguments = new Object[method.getParameterCount()];
        for (int k = 0; k < arguments.length; k++) {
            // Most calls shall get past their first wrong argument.
            arguments[k] = random.nextInt(3) == 0 ? NUMBERS[random.nextInt(NUMBERS.length)] : random.nextInt(3);
        }
        try {
            method.invoke(valley, arguments);
        } catch (InvocationTargetException e) {
            boolean named = Arrays.asList(method.getExceptionTypes()).contains(e.getCause().getClass());
            String call = method.getName() + Arrays.toString(arguments);
            Check.due(call + " threw " + e.getCause(), true, named);
        }
    }
}
