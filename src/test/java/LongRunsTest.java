import java.lang.reflect.InvocationTargetException;
import java.lang.reflect.Method;
import java.util.Arrays;
import java.util.Comparator;
import java.util.Random;

/** Long runs of calls, the same each time, on the program and on PlainHats: all answers agree. */
public final class LongRunsTest {
    private static final int RUNS = 400;
    private static final int CALLS = 150;
    private static final int[] FAR =
            {-1, 5, 5, 6, 7, Integer.MAX_VALUE, Integer.MIN_VALUE, 1 << 30};

    private static final Method[] METHODS = methods();

    private final Checks checks = new Checks();

    private static Method[] methods() {
        return Arrays.stream(BorrowedHats.class.getDeclaredMethods())
                .filter(m -> java.lang.reflect.Modifier.isPublic(m.getModifiers()))
                .sorted(Comparator.comparing(Method::getName))
                .toArray(Method[]::new);
    }

    private static String answer(Object game, Method method, Object[] arguments)
            throws ReflectiveOperationException {
        try {
            Method own = game.getClass().getMethod(method.getName(), method.getParameterTypes());
            return String.valueOf(own.invoke(game, arguments));
        } catch (InvocationTargetException e) {
            return "throws." + e.getCause().getClass().getSimpleName();
        }
    }

    private static Object[] arguments(Method method, Random random) {
        Object[] arguments = new Object[method.getParameterCount()];
        for (int i = 0; i < arguments.length; i++) {
            boolean far = random.nextInt(25) == 0;
            arguments[i] = far ? FAR[random.nextInt(FAR.length)] : random.nextInt(5);
        }
        return arguments;
    }

    private static Method named(String name) {
        return Arrays.stream(METHODS).filter(m -> m.getName().equals(name)).findFirst().get();
    }

    /** Some calls come more seldom, as they would end each game too early. */
    private static Method chosen(Random random) {
        Method method = METHODS[random.nextInt(METHODS.length)];
        boolean seldom = method.getName().equals("begin") && random.nextInt(4) != 0;
        return seldom ? named("takeTurn") : method;
    }

    private void run(int number) throws ReflectiveOperationException {
        Random random = new Random(number);
        BorrowedHats game = new BorrowedHats();
        PlainHats plain = new PlainHats();
        for (int p = random.nextInt(6); p > 0; p--) {
            compare(number, game, plain, named("addPlayer"), random.nextInt(3));
        }
        for (int i = 0; i < CALLS; i++) {
            Method method = chosen(random);
            compare(number, game, plain, method, arguments(method, random));
        }
        compare(number, game, plain, named("digest"));
    }

    private void compare(int number, BorrowedHats game, PlainHats plain, Method method,
            Object... arguments) throws ReflectiveOperationException {
        String call = "run " + number + ": " + method.getName() + Arrays.toString(arguments);
        checks.due(call, answer(plain, method, arguments), answer(game, method, arguments));
    }

    public static void main(String[] args) throws ReflectiveOperationException {
        LongRunsTest test = new LongRunsTest();
        for (int number = 0; number < RUNS; number++) {
            test.run(number);
        }
        test.checks.end("LongRunsTest");
    }
}
