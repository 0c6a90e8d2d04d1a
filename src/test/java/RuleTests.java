import java.lang.reflect.Field;
import java.lang.reflect.InvocationTargetException;
import java.lang.reflect.Method;
import java.util.Arrays;
import java.util.Comparator;
import java.util.Random;

/**
 * What LANGUAGE.md asks beyond the document, for objects that are used for more than 512 calls, too:
 * no call throws by itself (rules 6 and 7), for any arguments in any state.
 */
public final class RuleTests {
    private static final int[] ARGUMENTS = {
        Integer.MIN_VALUE, -1000, -2, -1, 0, 1, 2, 3, 4, 5, 6, 7, 8, 12, 13, 14, 39, 40, 59, 60,
        61, 199, 200, 201, 1000, Integer.MAX_VALUE,
    };

    private static int wrong = 0;

    public static void main(String[] args) throws ReflectiveOperationException {
        for (int seed = 0; seed < 40; seed++) {
            onlyThrowsWhatItNames(seed);
        }
        countOfUsedNeverWraps();
        System.out.println(wrong == 0 ? "the rules are kept" : wrong + " breaches of a rule");
        if (wrong != 0) {
            System.exit(1);
        }
    }

    private static void breach(String what) {
        wrong++;
        System.out.println(what);
    }

    // ---- rules 6 and 7: a call throws what the document names, and nothing else

    private static void onlyThrowsWhatItNames(int seed) throws ReflectiveOperationException {
        Random random = new Random(seed);
        Method[] calls = callsInOrder();
        TableMaker x = new TableMaker(seed % 9, seed % 8);
        for (int k = 0; k < 5000; k++) {
            if (k % 500 == 0) {
                x.clear();
                addSomeGrammar(x, random);
            }
            Method call = calls[random.nextInt(calls.length)];
            if (!call.getName().equals("clear") && !call.getName().equals("open")) {
                ask(x, call, someArguments(call.getParameterCount(), random));
            }
        }
    }

    /** Reflection tells them in no order that one can rely on. */
    private static Method[] callsInOrder() {
        Method[] calls = Arrays.stream(TableMaker.class.getMethods())
                .filter(m -> m.getDeclaringClass() == TableMaker.class).toArray(Method[]::new);
        Arrays.sort(calls, Comparator.comparing(Method::getName));
        return calls;
    }

    private static Object[] someArguments(int count, Random random) {
        Object[] chosen = new Object[count];
        for (int i = 0; i < count; i++) {
            chosen[i] = ARGUMENTS[random.nextInt(ARGUMENTS.length)];
        }
        return chosen;
    }

    /** Right sides are short: such grammars often have a table. */
    private static void addSomeGrammar(TableMaker x, Random random) {
        for (int k = 0; k < 30; k++) {
            int s = random.nextInt(14);
            try {
                if (random.nextInt(3) == 0) {
                    x.production(s);
                } else {
                    x.symbol(s);
                }
            } catch (IllegalArgumentException | IllegalStateException e) {
                // What the grammar refuses is left out.
            }
        }
    }

    private static void ask(TableMaker x, Method call, Object[] arguments)
            throws ReflectiveOperationException {
        try {
            call.invoke(x, arguments);
        } catch (InvocationTargetException e) {
            Class<?> thrown = e.getCause().getClass();
            if (!Arrays.asList(call.getExceptionTypes()).contains(thrown)) {
                breach(call.getName() + Arrays.toString(arguments) + " throws " + e.getCause());
            }
        }
    }

    // ---- rule 7: the count of the productions used is an index, too

    /**
     * Two thousand million reductions take too long, so the count is set by its name. Where the
     * class is changed so that it has another name, this test has to follow.
     */
    private static void countOfUsedNeverWraps() throws ReflectiveOperationException {
        TableMaker x = new TableMaker(1, 1);
        x.production(1);
        x.symbol(1);
        x.symbol(0);
        x.production(1);
        x.build();
        for (int before : new int[] {1999999990, Integer.MAX_VALUE - 5}) {
            x.begin();
            setCount(x, before);
            feedMany(x, before);
        }
        x.begin();
        if (x.used() != 0) {
            breach("begin leaves a count of " + x.used());
        }
    }

    private static void setCount(TableMaker x, int count) throws ReflectiveOperationException {
        Field driver = TableMaker.class.getDeclaredField("driver");
        driver.setAccessible(true);
        Field reductions = driver.getType().getDeclaredField("reductions");
        reductions.setAccessible(true);
        reductions.setInt(driver.get(x), count);
    }

    private static void feedMany(TableMaker x, int before) {
        try {
            for (int k = 0; k < 20; k++) {
                x.feed(0);
                if (x.used() < before) {
                    breach("used() is " + x.used() + " behind " + before);
                }
                x.use(199);
            }
        } catch (RuntimeException e) {
            breach("behind " + before + " used: " + e);
        }
    }
}
