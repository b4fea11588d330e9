import java.lang.reflect.InvocationTargetException;
import java.lang.reflect.Method;
import java.lang.reflect.Modifier;
import java.util.function.IntToLongFunction;

/** Counts the calls whose answer is not the one that is due. */
final class Due {
    private static final int MOST_SECONDS = 300;
    private static int wrong = 0;
    private static String test = "";

    static {
        watch();
    }

    private Due() {
    }

    /** A call that does not end is as wrong as a wrong answer. */
    private static void watch() {
        Thread watching = new Thread(() -> {
            try {
                Thread.sleep(MOST_SECONDS * 1000L);
            } catch (InterruptedException e) {
                return;
            }
            System.out.println(test + "did not end");
            Runtime.getRuntime().halt(1);
        });
        watching.setDaemon(true);
        watching.start();
    }

    static void is(String call, long got, long want) {
        if (got != want) {
            wrong++;
            System.out.println(test + call + " answered " + got + ", due is " + want);
        }
    }

    static void holds(String what, boolean truth) {
        if (!truth) {
            wrong++;
            System.out.println(test + "does not hold: " + what);
        }
    }

    /** Both sides of both limits of one number: low and high are taken, all beyond them is BAD. */
    static void limits(String what, int low, int high, IntToLongFunction call) {
        is(what + " just too small", call.applyAsLong(low - 1), RentOrBuy.BAD);
        is(what + " just too large", call.applyAsLong(high + 1), RentOrBuy.BAD);
        is(what + " as small as can be", call.applyAsLong(Integer.MIN_VALUE), RentOrBuy.BAD);
        is(what + " as large as can be", call.applyAsLong(Integer.MAX_VALUE), RentOrBuy.BAD);
        holds(what + ": the least is taken", call.applyAsLong(low) >= 0);
        holds(what + ": the greatest is taken", call.applyAsLong(high) >= 0);
    }

    static void runPromises(Class<?> tests) throws IllegalAccessException {
        runNamed(tests, "promise");
        finish();
    }

    /** Runs each method of the class whose name begins as that of a test, so that none is forgotten. */
    static void runNamed(Class<?> tests, String beginning) throws IllegalAccessException {
        int ran = 0;
        for (Method method : tests.getDeclaredMethods()) {
            if (method.getName().startsWith(beginning) && Modifier.isStatic(method.getModifiers())) {
                test = method.getName() + ": ";
                method.setAccessible(true);
                runOne(method);
                ran++;
            }
        }
        test = "";
        holds("there are tests in " + tests, ran > 0);
    }

    /** What a call throws fails its own test, and the others still run. */
    private static void runOne(Method method) throws IllegalAccessException {
        try {
            method.invoke(null);
        } catch (InvocationTargetException e) {
            holds("no call throws", false);
            e.getCause().printStackTrace(System.out);
        }
    }

    /** Ends the program with exit code 1 if an answer was wrong. */
    static void finish() {
        if (wrong != 0) {
            System.out.println(wrong + " answers are not as due");
            System.exit(1);
        }
    }
}
