import java.lang.reflect.InvocationTargetException;
import java.lang.reflect.Method;
import java.util.ArrayList;
import java.util.Arrays;
import java.util.HashMap;
import java.util.List;
import java.util.Map;
import java.util.TreeMap;

/**
 * Long runs of calls, each compared with the model. The calls are chosen by a row of numbers that is the same
 * each time; most have arguments that can succeed, some do not.
 */
public final class ModelTest {
    private static final int RUNS = 600;
    private static final int CALLS = 512;
    private static final int[] WRONG = {-1, -2, Integer.MIN_VALUE, Integer.MAX_VALUE, 10, 16, 3, 8, 28, 100};
    /** How often a call is chosen, the others once. */
    private static final Map<String, Integer> WEIGHTS = Map.of("addWorker", 4, "addShift", 6, "setBid", 30, "award",
            30, "revoke", 5, "exchange", 20, "rotate", 40, "partner", 8, "setGuarantee", 3, "undo", 4);

    private final long start;
    private long state;
    private final ShiftMarket x = new ShiftMarket();
    private final Model model = new Model();
    private final List<String> calls = new ArrayList<>();
    private boolean differs = false;

    private static final Map<String, Method> METHODS = new TreeMap<>();
    private static final List<String> CHOICES = new ArrayList<>();
    private static final Map<String, Integer> ANSWERS = new HashMap<>();

    private ModelTest(long start) {
        this.start = start;
        this.state = start;
    }

    public static void main(String[] args) {
        for (Method method : ShiftMarket.class.getDeclaredMethods()) {
            if (java.lang.reflect.Modifier.isPublic(method.getModifiers())) {
                METHODS.put(method.getName(), method);
            }
        }
        METHODS.keySet().forEach(name -> {
            for (int count = WEIGHTS.getOrDefault(name, 1); count > 0; count--) {
                CHOICES.add(name);
            }
        });
        for (int run = 0; run < RUNS; run++) {
            new ModelTest(run).run();
        }
        eachAnswerComesOften();
        Check.end("ModelTest");
    }

    /** What never comes is not compared, so each call must have succeeded and have been refused in each way. */
    private static void eachAnswerComesOften() {
        METHODS.forEach((name, method) -> {
            Check.equal(name + " succeeds often", true, ANSWERS.getOrDefault(name, 0) > 50);
            Arrays.stream(method.getExceptionTypes()).map(Class::getSimpleName).forEach(due ->
                    Check.equal(name + " throws " + due, true, ANSWERS.getOrDefault(name + due, 0) > 10));
        });
    }

    private int next(int bound) {
        state = state * 6364136223846793005L + 1442695040888963407L;
        return (int) ((state >>> 33) % bound);
    }

    private void run() {
        int workers = next(11);
        int shifts = next(8) == 0 ? next(5) : 4 + next(13);
        if (next(4) > 0) {
            for (int count = 0; count < Math.max(workers, shifts); count++) {
                if (count < workers) {
                    compare("addWorker", next(4), next(3) * 4, 12 + next(40), 1 + next(6), 15 - next(3) / 2 * next(15));
                }
                if (count < shifts) {
                    compare("addShift", next(3) == 0 ? next(28) : next(9), next(24), 1 + next(12), next(4),
                            1 + next(3));
                }
            }
        }
        while (calls.size() < CALLS && !differs) {
            choose();
        }
    }

    private void choose() {
        if (next(50) == 0) {
            text();
            return;
        }
        for (int count = next(300) == 0 ? 90 : 0; count > 0; count--) {
            compare("appendCharacter", next(30) == 0 ? 127 : '0' + next(12));
        }
        String name = CHOICES.get(next(CHOICES.size()));
        int[] arguments = likely(name);
        for (int index = 0; index < arguments.length; index++) {
            if (next(30) == 0) {
                arguments[index] = WRONG[next(WRONG.length)];
            }
        }
        compare(name, arguments);
    }

    private int[] likely(String name) {
        int workers = Math.max(1, x.workerCount());
        int shifts = Math.max(1, x.shiftCount());
        switch (name) {
            case "addWorker": return new int[] {next(100), next(25), 1 + next(60), 1 + next(6), next(16)};
            case "addShift": return new int[] {next(28), next(24), 1 + next(12), next(4), 1 + next(3)};
            case "setBid": return new int[] {next(workers), next(shifts), next(10)};
            case "appendCharacter": return new int[] {33 + next(94)};
            case "worker": return new int[] {next(workers), next(6)};
            case "shift": return new int[] {next(shifts), next(8)};
            case "order": case "held": case "daysInRow": case "shortestRest": case "points": case "bestSet":
            case "bestPoints": case "nextChoice": return new int[] {next(workers)};
            case "holders": return new int[] {next(shifts)};
            case "bid": case "award": return new int[] {next(workers), next(shifts)};
            case "obstacle": case "partner": return new int[] {next(workers), next(shifts), next(2)};
            case "revoke": return held();
            case "setGuarantee": return new int[] {next(shifts), next(3)};
            case "reason": return new int[] {next(3)};
            case "exchange": return joined(held(), held());
            case "rotate": return joined(held(), joined(held(), held()));
            case "hours": return new int[] {next(workers), next(5) - 1};
            case "awardAt": return new int[] {next(x.awardCount() + 1), next(40) == 0 ? 2 : next(2)};
            default: return new int[METHODS.get(name).getParameterCount()];
        }
    }

    /** A worker, and mostly a shift that it holds. */
    private int[] held() {
        int worker = next(Math.max(1, x.workerCount()));
        if (x.awardCount() == 0 || next(30) == 0) {
            return new int[] {worker, next(Math.max(1, x.shiftCount()))};
        }
        int index = next(x.awardCount());
        return new int[] {x.awardAt(index, 0), x.awardAt(index, 1)};
    }

    private static int[] joined(int[] a, int[] b) {
        int[] all = Arrays.copyOf(a, a.length + b.length);
        System.arraycopy(b, 0, all, a.length, b.length);
        return all;
    }

    private void text() {
        StringBuilder text = new StringBuilder();
        for (int items = next(4); items >= 0; items--) {
            int kind = next(5);
            String name = kind == 0 ? "addWorker" : kind == 1 ? "addShift" : "setBid";
            text.append(kind == 0 ? "w" : kind == 1 ? "s" : "b");
            int[] arguments = likely(name);
            for (int index = 0; index < arguments.length; index++) {
                text.append(index == 0 ? "" : ",").append(arguments[index]);
            }
            text.append(items > 0 ? ";" : "");
        }
        if (next(3) == 0) {
            String signs = "0129,;wsbx";
            text.setCharAt(next(text.length()), signs.charAt(next(signs.length())));
        }
        if (next(6) == 0) {
            text.setLength(next(text.length()));
        }
        for (int index = 0; index < text.length(); index++) {
            compare("appendCharacter", text.charAt(index));
        }
        compare("addItems");
        compare("faultPosition");
        compare("failedItem");
    }

    private void compare(String name, int... arguments) {
        if (differs || calls.size() >= CALLS) {
            return;
        }
        calls.add(name + Arrays.toString(arguments));
        Object due = model.call(name, arguments);
        Object got = answer(name, arguments);
        ANSWERS.merge(due instanceof String && !due.equals(Model.NOTHING) ? name + due : name, 1, Integer::sum);
        Check.equal("run " + start + ", call " + calls.size() + ", " + calls.get(calls.size() - 1), due, got);
        differs = !due.equals(got);
        if (!differs && !name.equals("appendCharacter")) {
            compareState();
        }
    }

    private Object answer(String name, int... arguments) {
        try {
            Object got = METHODS.get(name).invoke(x, Arrays.stream(arguments).boxed().toArray());
            return got == null ? Model.NOTHING : got;
        } catch (InvocationTargetException e) {
            return e.getCause().getClass().getSimpleName();
        } catch (IllegalAccessException e) {
            throw new IllegalStateException(e);
        }
    }

    /** What is asked besides is no call of the run; the class does not count its calls. */
    private void compareState() {
        StringBuilder due = new StringBuilder();
        StringBuilder got = new StringBuilder();
        int workers = x.workerCount();
        int shifts = x.shiftCount();
        for (int part = 0; part < 3; part++) {
            both(due, got, "reason", part);
        }
        for (int worker = 0; worker < workers; worker++) {
            both(due, got, "held", worker);
        }
        for (int index = 0; index < x.awardCount(); index++) {
            both(due, got, "awardAt", index, index % 2);
        }
        for (int worker = 0; calls.size() % 32 == 0 && worker < workers; worker++) {
            for (int part = 0; part < 6; part++) {
                both(due, got, "worker", worker, part);
            }
            for (int shift = 0; shift < shifts; shift++) {
                both(due, got, "bid", worker, shift);
                both(due, got, "obstacle", worker, shift, 0);
                both(due, got, "obstacle", worker, shift, 1);
            }
        }
        for (int shift = 0; calls.size() % 32 == 0 && shift < shifts; shift++) {
            for (int part = 0; part < 8; part++) {
                both(due, got, "shift", shift, part);
            }
        }
        String what = "run " + start + ", the state after call " + calls.size() + ", " + calls.get(calls.size() - 1);
        Check.equal(what, due.toString(), got.toString());
        differs = !due.toString().equals(got.toString());
    }

    private void both(StringBuilder due, StringBuilder got, String name, int... arguments) {
        due.append(model.call(name, arguments)).append(" ");
        got.append(answer(name, arguments)).append(" ");
    }
}
