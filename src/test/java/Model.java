import java.util.ArrayDeque;
import java.util.ArrayList;
import java.util.Comparator;
import java.util.Deque;
import java.util.List;
import java.util.TreeMap;
import java.util.TreeSet;
import java.util.function.IntPredicate;
import java.util.regex.Matcher;
import java.util.regex.Pattern;

/**
 * The document read once more, in another way than by the program: lists and sets that are copied, hours that
 * are counted one by one, and texts by a pattern. A call answers what the class should: a number, a boolean, or
 * the name of the exception.
 */
final class Model {
    static final String INDEX = "IndexOutOfBoundsException";
    static final String ARGUMENT = "IllegalArgumentException";
    static final String STATE = "IllegalStateException";
    static final String ELEMENT = "NoSuchElementException";
    static final String UNSUPPORTED = "UnsupportedOperationException";
    static final String ARITHMETIC = "ArithmeticException";
    static final String NOTHING = "void";

    private static final String NUMBER = "[0-9]{1,3}";
    private static final String ITEM = "(?:[ws]" + NUMBER + "(?:," + NUMBER + "){4}|b" + NUMBER + "(?:," + NUMBER
            + "){2})";
    private static final Pattern TEXT = Pattern.compile(ITEM + "(?:;" + ITEM + ")*");

    private static final class Situation {
        final List<int[]> workers = new ArrayList<>();
        final List<int[]> shifts = new ArrayList<>();
        final TreeMap<String, Integer> bids = new TreeMap<>();
        final List<int[]> awards = new ArrayList<>();

        Situation copy() {
            Situation copy = new Situation();
            workers.forEach(worker -> copy.workers.add(worker.clone()));
            shifts.forEach(shift -> copy.shifts.add(shift.clone()));
            copy.bids.putAll(bids);
            awards.forEach(award -> copy.awards.add(award.clone()));
            return copy;
        }
    }

    private Situation now = new Situation();
    private Situation saved = null;
    private final Deque<Situation> before = new ArrayDeque<>();
    private String text = "";
    private int fault = -1;
    private int failed = -1;
    private int[] reason = {0, 0, -1};

    Object call(String name, int... a) {
        switch (name) {
            case "addWorker": return change(addWorker(a));
            case "addShift": return change(addShift(a));
            case "setBid": return change(setBid(a));
            case "appendCharacter": return appendCharacter(a[0]);
            case "addItems": return addItems();
            case "faultPosition": return fault;
            case "failedItem": return failed;
            case "workerCount": return now.workers.size();
            case "worker": return noWorker(a[0]) ? INDEX : a[1] < 0 || a[1] > 5 ? ARGUMENT
                    : a[1] == 5 ? bidShifts(a[0]).size() : (Object) now.workers.get(a[0])[a[1]];
            case "shiftCount": return now.shifts.size();
            case "shift": return noShift(a[0]) ? INDEX : a[1] < 0 || a[1] > 7 ? ARGUMENT
                    : a[1] == 6 ? coverage(a[0]) : a[1] == 7 ? end(a[0]) : (Object) now.shifts.get(a[0])[a[1]];
            case "bid": return noPair(a[0], a[1]) ? INDEX : (Object) points(a[0], a[1]);
            case "order": return a[0] < 0 || a[0] >= now.workers.size() ? INDEX : (Object) order().get(a[0]);
            case "obstacle": return noPair(a[0], a[1]) ? INDEX : a[2] < 0 || a[2] > 1 ? ARGUMENT
                    : (Object) obstacle(a[0], a[1], heldBy(a[0]), true)[a[2]];
            case "award": return award(a[0], a[1]);
            case "revoke": return revoke(a[0], a[1]);
            case "setGuarantee": return setGuarantee(a[0], a[1]);
            case "reason": return a[0] < 0 || a[0] > 2 ? ARGUMENT : (Object) reason[a[0]];
            case "nextChoice": return noWorker(a[0]) ? INDEX : choice(a[0]) < 0 ? ELEMENT : (Object) choice(a[0]);
            default: return callMore(name, a);
        }
    }

    private Object callMore(String name, int... a) {
        switch (name) {
            case "round": remember(); return round();
            case "runAll": return runAll();
            case "exchange": return exchange(new int[] {a[0], a[2]}, new int[] {a[1], a[3]});
            case "rotate": return exchange(new int[] {a[0], a[2], a[4]}, new int[] {a[1], a[3], a[5]});
            case "partner": return partner(a[0], a[1], a[2]);
            case "held": return noWorker(a[0]) ? INDEX : (Object) bits(heldBy(a[0]));
            case "holders": return noShift(a[0]) ? INDEX : (Object) bits(holdersOf(a[0]));
            case "hours": return noWorker(a[0]) ? INDEX : a[1] < -1 || a[1] > 3 ? ARGUMENT
                    : (Object) hours(heldBy(a[0]), a[1]);
            case "daysInRow": return noWorker(a[0]) ? INDEX : (Object) longestRow(heldBy(a[0]), day -> true);
            case "shortestRest": return noWorker(a[0]) ? INDEX : heldBy(a[0]).size() < 2 ? ELEMENT
                    : (Object) shortestRest(a[0]);
            case "points": return noWorker(a[0]) ? INDEX : (Object) sum(a[0], heldBy(a[0]));
            case "bestSet": return noWorker(a[0]) ? INDEX : (Object) bits(bestSet(a[0]));
            case "bestPoints": return noWorker(a[0]) ? INDEX : (Object) sum(a[0], bestSet(a[0]));
            case "openShifts": return openShifts();
            case "awardCount": return now.awards.size();
            case "awardAt": return a[0] < 0 || a[0] >= now.awards.size() ? INDEX : a[1] < 0 || a[1] > 1 ? ARGUMENT
                    : (Object) now.awards.get(a[0])[a[1]];
            case "isLegal": return isLegal();
            case "averageHours": return averageHours();
            case "coveredShare": return coveredShare();
            case "undo": return undo();
            case "save": saved = now.copy(); return now.awards.size();
            case "restore": return restore();
            default: throw new IllegalArgumentException(name);
        }
    }

    // ---- changes

    private void remember() {
        before.addLast(now.copy());
        if (before.size() > 8) {
            before.removeFirst();
        }
    }

    /** A call that was tried on a copy, which is the new situation if it was successful. */
    private Object change(Object[] tried) {
        if (tried[0] instanceof Integer) {
            remember();
            now = (Situation) tried[1];
        }
        return tried[0];
    }

    private Object undo() {
        if (before.isEmpty()) {
            return STATE;
        }
        now = before.removeLast();
        return before.size();
    }

    private Object restore() {
        if (saved == null) {
            return STATE;
        }
        remember();
        now = saved.copy();
        return now.awards.size();
    }

    private static boolean outside(int number, int least, int most) {
        return number < least || number > most;
    }

    private Object[] addWorker(int... a) {
        if (outside(a[0], 0, 99) || outside(a[1], 0, 24) || outside(a[2], 1, 168) || outside(a[3], 1, 28)
                || outside(a[4], 0, 15)) {
            return new Object[] {ARGUMENT};
        }
        if (now.workers.size() >= 10) {
            return new Object[] {STATE};
        }
        Situation next = now.copy();
        next.workers.add(a.clone());
        return new Object[] {next.workers.size() - 1, next};
    }

    private Object[] addShift(int... a) {
        if (outside(a[0], 0, 27) || outside(a[1], 0, 23) || outside(a[2], 1, 12) || outside(a[3], 0, 3)
                || outside(a[4], 1, 3)) {
            return new Object[] {ARGUMENT};
        }
        if (now.shifts.size() >= 16) {
            return new Object[] {STATE};
        }
        Situation next = now.copy();
        next.shifts.add(new int[] {a[0], a[1], a[2], a[3], a[4], 0});
        return new Object[] {next.shifts.size() - 1, next};
    }

    private Object[] setBid(int... a) {
        if (noPair(a[0], a[1])) {
            return new Object[] {INDEX};
        }
        if (outside(a[2], 0, 9)) {
            return new Object[] {ARGUMENT};
        }
        if (a[2] > 0 && bidShifts(a[0]).size() == 8 && !bidShifts(a[0]).contains(a[1])) {
            return new Object[] {STATE};
        }
        Situation next = now.copy();
        Integer previous = a[2] == 0 ? next.bids.remove(a[0] + ":" + a[1]) : next.bids.put(a[0] + ":" + a[1], a[2]);
        return new Object[] {previous == null ? 0 : previous, next};
    }

    private Object appendCharacter(int character) {
        if (outside(character, 33, 126)) {
            return ARGUMENT;
        }
        if (text.length() == 80) {
            return STATE;
        }
        text += (char) character;
        return text.length();
    }

    private static boolean canBegin(String text) {
        Matcher matcher = TEXT.matcher(text);
        return matcher.matches() || matcher.hitEnd();
    }

    private static int faultOf(String text) {
        for (int index = 0; index < text.length(); index++) {
            if (!canBegin(text.substring(0, index + 1))) {
                return index;
            }
        }
        return TEXT.matcher(text).matches() ? -1 : text.length();
    }

    private Object addItems() {
        String read = text;
        text = "";
        failed = -1;
        fault = faultOf(read);
        if (fault >= 0) {
            return ARGUMENT;
        }
        Situation start = now;
        String[] items = read.split(";");
        for (int item = 0; item < items.length; item++) {
            String[] parts = items[item].substring(1).split(",");
            int[] a = new int[parts.length];
            for (int index = 0; index < a.length; index++) {
                a[index] = Integer.parseInt(parts[index]);
            }
            char kind = items[item].charAt(0);
            Object[] tried = kind == 'w' ? addWorker(a) : kind == 's' ? addShift(a) : setBid(a);
            if (tried[0] instanceof String) {
                failed = item;
                now = start;
                return STATE;
            }
            now = (Situation) tried[1];
        }
        Situation end = now;
        now = start;
        remember();
        now = end;
        return items.length;
    }

    // ---- what there is

    private boolean noWorker(int worker) {
        return outside(worker, 0, now.workers.size() - 1);
    }

    private boolean noShift(int shift) {
        return outside(shift, 0, now.shifts.size() - 1);
    }

    private boolean noPair(int worker, int shift) {
        return noWorker(worker) || noShift(shift);
    }

    private int points(int worker, int shift) {
        return now.bids.getOrDefault(worker + ":" + shift, 0);
    }

    private TreeSet<Integer> bidShifts(int worker) {
        TreeSet<Integer> set = new TreeSet<>();
        for (int shift = 0; shift < now.shifts.size(); shift++) {
            if (now.bids.containsKey(worker + ":" + shift)) {
                set.add(shift);
            }
        }
        return set;
    }

    private List<Integer> order() {
        List<Integer> order = new ArrayList<>();
        for (int worker = 0; worker < now.workers.size(); worker++) {
            order.add(worker);
        }
        order.sort(Comparator.comparing(worker -> -now.workers.get(worker)[0]));
        return order;
    }

    private int begin(int shift) {
        return 24 * now.shifts.get(shift)[0] + now.shifts.get(shift)[1];
    }

    private int end(int shift) {
        return begin(shift) + now.shifts.get(shift)[2];
    }

    private TreeSet<Integer> heldBy(int worker) {
        TreeSet<Integer> set = new TreeSet<>();
        now.awards.stream().filter(award -> award[0] == worker).forEach(award -> set.add(award[1]));
        return set;
    }

    private TreeSet<Integer> holdersOf(int shift) {
        TreeSet<Integer> set = new TreeSet<>();
        now.awards.stream().filter(award -> award[1] == shift).forEach(award -> set.add(award[0]));
        return set;
    }

    private int coverage(int shift) {
        return holdersOf(shift).size();
    }

    private static int bits(TreeSet<Integer> set) {
        return set.stream().mapToInt(number -> 1 << number).sum();
    }

    private int sum(int worker, TreeSet<Integer> set) {
        return set.stream().mapToInt(shift -> points(worker, shift)).sum();
    }

    private int hours(TreeSet<Integer> set, int week) {
        return set.stream().filter(shift -> week == -1 || now.shifts.get(shift)[0] / 7 == week)
                .mapToInt(shift -> now.shifts.get(shift)[2]).sum();
    }

    // ---- obstacles

    private boolean hasSkill(int worker, int shift) {
        return now.workers.get(worker)[4] / (int) Math.pow(2, now.shifts.get(shift)[3]) % 2 == 1;
    }

    private int[] obstacle(int worker, int shift, TreeSet<Integer> set, boolean needCounts) {
        int[] a = now.shifts.get(shift);
        if (set.contains(shift)) {
            return new int[] {1, shift};
        }
        if (!hasSkill(worker, shift)) {
            return new int[] {2, a[3]};
        }
        if (needCounts && coverage(shift) == a[4]) {
            return new int[] {3, a[4]};
        }
        return obstacleFromFour(worker, shift, set);
    }

    private boolean overlap(int shift, int other) {
        for (int hour = begin(shift); hour < end(shift); hour++) {
            if (hour >= begin(other) && hour < end(other)) {
                return true;
            }
        }
        return false;
    }

    private int[] obstacleFromFour(int worker, int shift, TreeSet<Integer> set) {
        for (int other : set) {
            if (overlap(shift, other)) {
                return new int[] {4, other};
            }
        }
        int[] limits = now.workers.get(worker);
        for (int other : set) {
            int between = begin(shift) > begin(other) ? begin(shift) - end(other) : begin(other) - end(shift);
            if (between < limits[1]) {
                return new int[] {5, other};
            }
        }
        TreeSet<Integer> all = new TreeSet<>(set);
        all.add(shift);
        int day = now.shifts.get(shift)[0];
        if (hours(all, day / 7) > limits[2]) {
            return new int[] {6, day / 7};
        }
        int row = longestRow(all, other -> other == day);
        return row > limits[3] ? new int[] {7, row} : new int[] {0, 0};
    }

    /** The longest row of consecutive days of the set, of those that have a day that is wanted. */
    private int longestRow(TreeSet<Integer> set, IntPredicate wanted) {
        TreeSet<Integer> days = new TreeSet<>();
        set.forEach(shift -> days.add(now.shifts.get(shift)[0]));
        int longest = 0;
        for (int first : days) {
            boolean found = false;
            for (int last = first; days.contains(last); last++) {
                found |= wanted.test(last);
                longest = found ? Math.max(longest, last - first + 1) : longest;
            }
        }
        return longest;
    }

    // ---- awards, rounds, exchanges

    private Object award(int worker, int shift) {
        if (noPair(worker, shift)) {
            return INDEX;
        }
        int[] found = obstacle(worker, shift, heldBy(worker), true);
        if (found[0] > 0) {
            reason = new int[] {found[0], found[1], worker};
            return UNSUPPORTED;
        }
        reason = new int[] {0, 0, -1};
        remember();
        now.awards.add(new int[] {worker, shift});
        return coverage(shift);
    }

    private Object revoke(int worker, int shift) {
        if (noPair(worker, shift)) {
            return INDEX;
        }
        if (!heldBy(worker).contains(shift)) {
            return ELEMENT;
        }
        int guarantee = now.shifts.get(shift)[5];
        if (coverage(shift) <= guarantee) {
            reason = new int[] {8, guarantee, worker};
            return UNSUPPORTED;
        }
        reason = new int[] {0, 0, -1};
        remember();
        now.awards.removeIf(award -> award[0] == worker && award[1] == shift);
        return coverage(shift);
    }

    private Object setGuarantee(int shift, int guarantee) {
        if (noShift(shift)) {
            return INDEX;
        }
        if (outside(guarantee, 0, now.shifts.get(shift)[4])) {
            return ARGUMENT;
        }
        if (coverage(shift) < guarantee) {
            return STATE;
        }
        remember();
        int previous = now.shifts.get(shift)[5];
        now.shifts.get(shift)[5] = guarantee;
        return previous;
    }

    private int choice(int worker) {
        return bidShifts(worker).stream()
                .filter(shift -> obstacle(worker, shift, heldBy(worker), true)[0] == 0)
                .min(Comparator.<Integer>comparingInt(shift -> -points(worker, shift)).thenComparing(this::begin)
                        .thenComparing(shift -> shift))
                .orElse(-1);
    }

    private int round() {
        int made = 0;
        for (int worker : order()) {
            int shift = choice(worker);
            if (shift >= 0) {
                now.awards.add(new int[] {worker, shift});
                made++;
            }
        }
        return made;
    }

    private int runAll() {
        remember();
        int sum = 0;
        int made;
        do {
            made = round();
            sum += made;
        } while (made > 0);
        return sum;
    }

    /** Each worker gives its shift to the next one, the last one to the first. */
    private Object exchange(int[] workers, int[] shifts) {
        int count = workers.length;
        TreeSet<Integer> different = new TreeSet<>();
        for (int index = 0; index < count; index++) {
            if (noPair(workers[index], shifts[index])) {
                return INDEX;
            }
            different.add(workers[index]);
        }
        if (different.size() < count) {
            return ARGUMENT;
        }
        for (int index = 0; index < count; index++) {
            if (!heldBy(workers[index]).contains(shifts[index])) {
                return ELEMENT;
            }
        }
        for (int index = 0; index < count; index++) {
            int[] found = obstacleToExchange(workers[index], shifts[index], shifts[(index + count - 1) % count]);
            if (found[0] > 0) {
                reason = new int[] {found[0], found[1], workers[index]};
                return UNSUPPORTED;
            }
        }
        reason = new int[] {0, 0, -1};
        remember();
        List<int[]> places = new ArrayList<>();
        for (int index = 0; index < count; index++) {
            int at = index;
            now.awards.stream().filter(award -> award[0] == workers[at] && award[1] == shifts[at])
                    .forEach(places::add);
        }
        for (int index = 0; index < count; index++) {
            places.get(index)[0] = workers[(index + 1) % count];
        }
        return NOTHING;
    }

    private int[] obstacleToExchange(int worker, int given, int gotten) {
        TreeSet<Integer> set = heldBy(worker);
        set.remove(given);
        return obstacle(worker, gotten, set, false);
    }

    private Object partner(int worker, int shift, int part) {
        if (noPair(worker, shift)) {
            return INDEX;
        }
        if (outside(part, 0, 1)) {
            return ARGUMENT;
        }
        for (int other : holdersOf(shift)) {
            for (int given : heldBy(worker)) {
                if (other != worker && obstacleToExchange(worker, given, shift)[0] == 0
                        && obstacleToExchange(other, shift, given)[0] == 0) {
                    return part == 0 ? other : given;
                }
            }
        }
        return ELEMENT;
    }

    // ---- accounts

    private int shortestRest(int worker) {
        List<Integer> held = new ArrayList<>(heldBy(worker));
        held.sort(Comparator.comparing(this::begin));
        int least = Integer.MAX_VALUE;
        for (int index = 1; index < held.size(); index++) {
            least = Math.min(least, begin(held.get(index)) - end(held.get(index - 1)));
        }
        return least;
    }

    private boolean suits(int worker, TreeSet<Integer> set) {
        for (int shift : set) {
            TreeSet<Integer> others = new TreeSet<>(set);
            others.remove(shift);
            if (!hasSkill(worker, shift) || obstacleFromFour(worker, shift, others)[0] > 0) {
                return false;
            }
        }
        return true;
    }

    private TreeSet<Integer> bestSet(int worker) {
        List<TreeSet<Integer>> sets = new ArrayList<>();
        sets.add(new TreeSet<>());
        for (int shift : bidShifts(worker)) {
            for (TreeSet<Integer> set : List.copyOf(sets)) {
                TreeSet<Integer> larger = new TreeSet<>(set);
                larger.add(shift);
                // What does not suit, suits no better with more shifts: a set within a set that suits, suits.
                if (suits(worker, larger)) {
                    sets.add(larger);
                }
            }
        }
        return sets.stream().min(Comparator.<TreeSet<Integer>>comparingInt(set -> -sum(worker, set))
                .thenComparing(Model::bits)).orElseThrow();
    }

    private int openShifts() {
        TreeSet<Integer> open = new TreeSet<>();
        for (int shift = 0; shift < now.shifts.size(); shift++) {
            if (coverage(shift) < now.shifts.get(shift)[4]) {
                open.add(shift);
            }
        }
        return bits(open);
    }

    private boolean isLegal() {
        boolean legal = true;
        for (int worker = 0; worker < now.workers.size(); worker++) {
            legal &= suits(worker, heldBy(worker));
        }
        for (int shift = 0; shift < now.shifts.size(); shift++) {
            legal &= !outside(coverage(shift), now.shifts.get(shift)[5], now.shifts.get(shift)[4]);
        }
        return legal;
    }

    private Object averageHours() {
        if (now.workers.isEmpty()) {
            return ARITHMETIC;
        }
        double sum = 0;
        for (int[] award : now.awards) {
            sum += now.shifts.get(award[1])[2];
        }
        return sum / now.workers.size();
    }

    private Object coveredShare() {
        if (now.shifts.isEmpty()) {
            return ARITHMETIC;
        }
        float coverages = 0;
        float needs = 0;
        for (int shift = 0; shift < now.shifts.size(); shift++) {
            coverages += coverage(shift);
            needs += now.shifts.get(shift)[4];
        }
        return coverages / needs;
    }
}
