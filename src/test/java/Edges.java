import java.lang.reflect.InvocationTargetException;
import java.lang.reflect.Method;
import java.lang.reflect.Modifier;
import java.util.ArrayList;
import java.util.List;
import java.util.TreeMap;

/**
 * What the tests of the edges share. Each of them bears the number and the name of a promise, and says first which
 * sentence of the document it looks at, so that it can be seen whether every such sentence has its test.
 */
final class Edges {
    static final String ORDER = "If a method can throw several exceptions, they are checked in the order in which"
            + " they are listed.";

    interface NumberAct {
        void on(ShiftMarket x, int number);
    }

    private static final TreeMap<String, List<String>> SAID = new TreeMap<>();
    private static String test = "";

    private Edges() {
    }

    /** The sentences that the tests say, by the tests' names. */
    static TreeMap<String, List<String>> said() {
        return SAID;
    }

    static void says(String sentence) {
        SAID.get(test).add(sentence);
    }

    static void run(Class<?> edges) throws Exception {
        TreeMap<String, Method> tests = new TreeMap<>();
        for (Method method : edges.getDeclaredMethods()) {
            if (method.getName().startsWith("promise") && !Modifier.isPrivate(method.getModifiers())) {
                tests.put(method.getName(), method);
            }
        }
        for (Method method : tests.values()) {
            test = method.getName();
            SAID.put(test, new ArrayList<>());
            Check.about(test);
            try {
                method.invoke(null);
            } catch (InvocationTargetException e) {
                Check.equal("the test itself", "no exception", "" + e.getCause());
            }
        }
    }

    /** Numbers that are not in a range: the first one beyond each end, and the farthest. */
    static int[] outside(int least, int most) {
        return new int[] {least - 1, most + 1, Integer.MIN_VALUE, Integer.MAX_VALUE};
    }

    static void refusesOutside(String what, int least, int most, Class<? extends RuntimeException> due,
            Check.Recipe recipe, NumberAct act) {
        for (int wrong : outside(least, most)) {
            Check.refuses(what + " " + wrong, due, recipe, y -> act.on(y, wrong));
        }
    }

    /** For a worker's number in the market busy, and in one without workers. */
    static void refusesNoWorker(NumberAct act) {
        refusesOutside("worker", 0, 2, Check.INDEX, Check::busy, act);
        refusesOutside("worker of ten", 0, 9, Check.INDEX, Check::crowded, act);
        Check.refuses("worker 0 of none", Check.INDEX, Edges::shiftsAlone, y -> act.on(y, 0));
    }

    /** For a shift's number in the market busy, and in one without shifts. */
    static void refusesNoShift(NumberAct act) {
        refusesOutside("shift", 0, 3, Check.INDEX, Check::busy, act);
        refusesOutside("shift of sixteen", 0, 15, Check.INDEX, Check::crowded, act);
        Check.refuses("shift 0 of none", Check.INDEX, Edges::workersAlone, y -> act.on(y, 0));
    }

    static ShiftMarket workersAlone() {
        ShiftMarket x = new ShiftMarket();
        for (int count = 0; count < 3; count++) {
            x.addWorker(0, 0, 168, 28, 15);
        }
        return x;
    }

    static ShiftMarket shiftsAlone() {
        ShiftMarket x = new ShiftMarket();
        for (int day = 0; day < 4; day++) {
            x.addShift(day, 8, 8, 0, 1);
        }
        return x;
    }

    /** Refuses the act, and the reason after it is the one that is due. */
    static void refusesFor(String what, String reason, Check.Recipe recipe, Check.Act act) {
        Check.refuses(what, Check.UNSUPPORTED, recipe, act);
        ShiftMarket x = recipe.make();
        Check.thrownBy(x, act);
        Check.equal(what + ": the reason", reason, Check.reasonOf(x));
    }
}
