import java.util.NoSuchElementException;

/** A market for shifts. Its promises stand in the project's document, DOC.md. */
public final class ShiftMarket {
    private static final int NONE = -1;
    private static final int FIRST_CHARACTER = 33;
    private static final int LAST_CHARACTER = 126;
    private static final int LAST_WEEK = 3;
    // The parts of workers and shifts that are asked for, but are not what the market keeps at that place.
    private static final int ASKED_BIDS = 5;
    private static final int ASKED_COVERAGE = 6;
    private static final int ASKED_END = 7;

    private final Rules rules = new Rules();
    private final Market market = rules.market;
    private final History history = new History();
    private final ItemText text = new ItemText();
    private final Reason latestReason = new Reason();
    private final int[] beforeItems = new int[Market.SIZE];
    private final int[] saved = new int[Market.SIZE];
    private boolean somethingSaved = false;
    private int latestFault = NONE;
    private int latestFailure = NONE;

    /** Creates a market without workers and shifts. */
    public ShiftMarket() {
    }

    // ---- building the market

    public int addWorker(int seniority, int rest, int hours, int days, int skills)
            throws IllegalArgumentException, IllegalStateException {
        if (!Market.isWorkerInRange(seniority, rest, hours, days, skills)) {
            throw new IllegalArgumentException("a number of the worker is out of range");
        }
        if (!market.hasRoomForWorker()) {
            throw new IllegalStateException("there is no room for a worker");
        }
        history.remember(market.row);
        return market.enterWorker(seniority, rest, hours, days, skills);
    }

    public int addShift(int day, int hour, int length, int skill, int need)
            throws IllegalArgumentException, IllegalStateException {
        if (!Market.isShiftInRange(day, hour, length, skill, need)) {
            throw new IllegalArgumentException("a number of the shift is out of range");
        }
        if (!market.hasRoomForShift()) {
            throw new IllegalStateException("there is no room for a shift");
        }
        history.remember(market.row);
        return market.enterShift(day, hour, length, skill, need);
    }

    public int setBid(int worker, int shift, int points)
            throws IndexOutOfBoundsException, IllegalArgumentException, IllegalStateException {
        requirePair(worker, shift);
        if (!Market.isBidInRange(points)) {
            throw new IllegalArgumentException("the points are out of range");
        }
        if (!market.hasRoomForBid(worker, shift, points)) {
            throw new IllegalStateException("the worker has no room for a bid");
        }
        history.remember(market.row);
        return market.enterBid(worker, shift, points);
    }

    // ---- texts

    public int appendCharacter(int character) throws IllegalArgumentException, IllegalStateException {
        if (!Market.isWithin(character, FIRST_CHARACTER, LAST_CHARACTER)) {
            throw new IllegalArgumentException("the character is out of range");
        }
        if (text.isFull()) {
            throw new IllegalStateException("the text is full");
        }
        return text.append(character);
    }

    public int addItems() throws IllegalArgumentException, IllegalStateException {
        latestFailure = NONE;
        latestFault = text.read();
        text.clear();
        if (latestFault != NONE) {
            throw new IllegalArgumentException("the text has a fault");
        }
        market.copyTo(beforeItems);
        latestFailure = carryOutItems();
        if (latestFailure != NONE) {
            market.copyFrom(beforeItems);
            throw new IllegalStateException("an item cannot be carried out");
        }
        history.remember(beforeItems);
        return text.itemTotal();
    }

    /** Answers the first item that cannot be carried out, or NONE; those before it stay carried out. */
    private int carryOutItems() {
        for (int item = 0; item < text.itemTotal(); item++) {
            if (!carryOut(item)) {
                return item;
            }
        }
        return NONE;
    }

    private boolean carryOut(int item) {
        int a = text.number(item, 0);
        int b = text.number(item, 1);
        int c = text.number(item, 2);
        int d = text.number(item, 3);
        int e = text.number(item, 4);
        switch (text.kind(item)) {
            case ItemText.WORKER:
                if (!Market.isWorkerInRange(a, b, c, d, e) || !market.hasRoomForWorker()) {
                    return false;
                }
                market.enterWorker(a, b, c, d, e);
                return true;
            case ItemText.SHIFT:
                if (!Market.isShiftInRange(a, b, c, d, e) || !market.hasRoomForShift()) {
                    return false;
                }
                market.enterShift(a, b, c, d, e);
                return true;
            default:
                if (!market.isPair(a, b) || !Market.isBidInRange(c) || !market.hasRoomForBid(a, b, c)) {
                    return false;
                }
                market.enterBid(a, b, c);
                return true;
        }
    }

    public int faultPosition() {
        return latestFault;
    }

    public int failedItem() {
        return latestFailure;
    }

    // ---- what the market consists of

    public int workerCount() {
        return market.workerTotal();
    }

    public int worker(int worker, int part) throws IndexOutOfBoundsException, IllegalArgumentException {
        requireWorker(worker);
        requirePart(part, ASKED_BIDS);
        return part == ASKED_BIDS ? market.bidTotal(worker) : market.workerPart(worker, part);
    }

    public int shiftCount() {
        return market.shiftTotal();
    }

    public int shift(int shift, int part) throws IndexOutOfBoundsException, IllegalArgumentException {
        requireShift(shift);
        requirePart(part, ASKED_END);
        if (part == ASKED_COVERAGE) {
            return market.coverage(shift);
        }
        return market.shiftPart(shift, part == ASKED_END ? Market.END : part);
    }

    public int bid(int worker, int shift) throws IndexOutOfBoundsException {
        requirePair(worker, shift);
        return market.pointsFor(worker, shift);
    }

    public int order(int rank) throws IndexOutOfBoundsException {
        if (!market.isWorker(rank)) {
            throw new IndexOutOfBoundsException("no such place");
        }
        return market.workerAtRank(rank);
    }

    public int obstacle(int worker, int shift, int part)
            throws IndexOutOfBoundsException, IllegalArgumentException {
        requirePair(worker, shift);
        requirePart(part, 1);
        int found = rules.obstacleToAward(worker, shift);
        return part == 0 ? Rules.numberOf(found) : Rules.detailOf(found);
    }

    // ---- awards and guarantees

    public int award(int worker, int shift) throws IndexOutOfBoundsException, UnsupportedOperationException {
        requirePair(worker, shift);
        int found = rules.obstacleToAward(worker, shift);
        latestReason.set(found, worker);
        if (found != Rules.NO_OBSTACLE) {
            throw new UnsupportedOperationException("there is an obstacle");
        }
        history.remember(market.row);
        market.enterAward(worker, shift);
        return market.coverage(shift);
    }

    public int revoke(int worker, int shift)
            throws IndexOutOfBoundsException, NoSuchElementException, UnsupportedOperationException {
        requirePair(worker, shift);
        if (!market.holds(worker, shift)) {
            throw new NoSuchElementException("the worker does not hold the shift");
        }
        int found = rules.obstacleToRevoke(shift);
        latestReason.set(found, worker);
        if (found != Rules.NO_OBSTACLE) {
            throw new UnsupportedOperationException("the guarantee does not allow it");
        }
        history.remember(market.row);
        market.removeAward(market.awardIndex(worker, shift));
        return market.coverage(shift);
    }

    public int setGuarantee(int shift, int guarantee)
            throws IndexOutOfBoundsException, IllegalArgumentException, IllegalStateException {
        requireShift(shift);
        if (!Market.isWithin(guarantee, 0, market.shiftPart(shift, Market.NEED))) {
            throw new IllegalArgumentException("the guarantee is out of range");
        }
        if (market.coverage(shift) < guarantee) {
            throw new IllegalStateException("the coverage is less than the guarantee");
        }
        history.remember(market.row);
        return market.enterGuarantee(shift, guarantee);
    }

    public int reason(int part) throws IllegalArgumentException {
        requirePart(part, 2);
        if (part == 0) {
            return latestReason.number;
        }
        return part == 1 ? latestReason.detail : latestReason.worker;
    }

    // ---- rounds

    public int nextChoice(int worker) throws IndexOutOfBoundsException, NoSuchElementException {
        requireWorker(worker);
        int choice = rules.choiceOf(worker);
        if (choice == NONE) {
            throw new NoSuchElementException("there is no shift for the worker");
        }
        return choice;
    }

    public int round() {
        history.remember(market.row);
        return makeRound();
    }

    public int runAll() {
        history.remember(market.row);
        int before = market.awardTotal();
        // Each round but the last makes an award, so there is one more than there can be awards.
        for (int rounds = 0; rounds <= Market.MAX_AWARDS; rounds++) {
            if (makeRound() == 0) {
                break;
            }
        }
        return market.awardTotal() - before;
    }

    private int makeRound() {
        int before = market.awardTotal();
        for (int rank = 0; rank < market.workerTotal(); rank++) {
            int considered = market.workerAtRank(rank);
            int choice = rules.choiceOf(considered);
            if (choice != NONE) {
                market.enterAward(considered, choice);
            }
        }
        return market.awardTotal() - before;
    }

    // ---- exchanges

    public void exchange(int worker, int shift, int other, int otherShift)
            throws IndexOutOfBoundsException, IllegalArgumentException, NoSuchElementException,
            UnsupportedOperationException {
        requirePair(worker, shift);
        requirePair(other, otherShift);
        if (worker == other) {
            throw new IllegalArgumentException("both workers are the same");
        }
        if (!market.holds(worker, shift) || !market.holds(other, otherShift)) {
            throw new NoSuchElementException("a worker does not hold the shift");
        }
        if (isRefused(worker, shift, otherShift) || isRefused(other, otherShift, shift)) {
            throw new UnsupportedOperationException("there is an obstacle");
        }
        history.remember(market.row);
        // Both places are looked up first: if the shifts are the same, a changed award would be found again.
        int place = market.awardIndex(worker, shift);
        int otherPlace = market.awardIndex(other, otherShift);
        market.reassign(place, other);
        market.reassign(otherPlace, worker);
    }

    public void rotate(int first, int firstShift, int second, int secondShift, int third, int thirdShift)
            throws IndexOutOfBoundsException, IllegalArgumentException, NoSuchElementException,
            UnsupportedOperationException {
        requirePair(first, firstShift);
        requirePair(second, secondShift);
        requirePair(third, thirdShift);
        if (first == second || second == third || third == first) {
            throw new IllegalArgumentException("two of the workers are the same");
        }
        if (!market.holds(first, firstShift) || !market.holds(second, secondShift)
                || !market.holds(third, thirdShift)) {
            throw new NoSuchElementException("a worker does not hold the shift");
        }
        if (isRefused(first, firstShift, thirdShift) || isRefused(second, secondShift, firstShift)
                || isRefused(third, thirdShift, secondShift)) {
            throw new UnsupportedOperationException("there is an obstacle");
        }
        history.remember(market.row);
        int firstPlace = market.awardIndex(first, firstShift);
        int secondPlace = market.awardIndex(second, secondShift);
        int thirdPlace = market.awardIndex(third, thirdShift);
        market.reassign(firstPlace, second);
        market.reassign(secondPlace, third);
        market.reassign(thirdPlace, first);
    }

    /** Also makes what it finds the reason: the first worker refused is the last one asked. */
    private boolean isRefused(int worker, int given, int gotten) {
        int found = rules.obstacleToExchange(worker, given, gotten);
        latestReason.set(found, worker);
        return found != Rules.NO_OBSTACLE;
    }

    public int partner(int worker, int shift, int part)
            throws IndexOutOfBoundsException, IllegalArgumentException, NoSuchElementException {
        requirePair(worker, shift);
        requirePart(part, 1);
        int found = rules.findPartner(worker, shift);
        if (found == NONE) {
            throw new NoSuchElementException("there is no such exchange");
        }
        return part == 0 ? found / Market.MAX_SHIFTS : found % Market.MAX_SHIFTS;
    }

    // ---- what is held

    public int held(int worker) throws IndexOutOfBoundsException {
        requireWorker(worker);
        return market.heldBy(worker);
    }

    public int holders(int shift) throws IndexOutOfBoundsException {
        requireShift(shift);
        return market.holdersOf(shift);
    }

    public int hours(int worker, int week) throws IndexOutOfBoundsException, IllegalArgumentException {
        requireWorker(worker);
        if (!Market.isWithin(week, Rules.ALL_WEEKS, LAST_WEEK)) {
            throw new IllegalArgumentException("no such week");
        }
        return rules.hoursOf(market.heldBy(worker), week);
    }

    public int daysInRow(int worker) throws IndexOutOfBoundsException {
        requireWorker(worker);
        return rules.longestSequence(market.heldBy(worker));
    }

    public int shortestRest(int worker) throws IndexOutOfBoundsException, NoSuchElementException {
        requireWorker(worker);
        int set = market.heldBy(worker);
        if (Integer.bitCount(set) < 2) {
            throw new NoSuchElementException("the worker holds fewer than two shifts");
        }
        return rules.leastGap(set);
    }

    public int points(int worker) throws IndexOutOfBoundsException {
        requireWorker(worker);
        return market.pointsForSet(worker, market.heldBy(worker));
    }

    public int bestSet(int worker) throws IndexOutOfBoundsException {
        requireWorker(worker);
        return rules.findBestSet(worker);
    }

    public int bestPoints(int worker) throws IndexOutOfBoundsException {
        requireWorker(worker);
        return market.pointsForSet(worker, rules.findBestSet(worker));
    }

    // ---- accounts

    public int openShifts() {
        int open = 0;
        for (int shift = 0; shift < market.shiftTotal(); shift++) {
            if (market.coverage(shift) < market.shiftPart(shift, Market.NEED)) {
                open |= Market.bit(shift);
            }
        }
        return open;
    }

    public int awardCount() {
        return market.awardTotal();
    }

    public int awardAt(int index, int part) throws IndexOutOfBoundsException, IllegalArgumentException {
        if (!market.isAward(index)) {
            throw new IndexOutOfBoundsException("no such award");
        }
        requirePart(part, 1);
        return part == 0 ? market.awardPart(index, Market.AWARD_WORKER) : market.awardPart(index, Market.AWARD_SHIFT);
    }

    public boolean isLegal() {
        for (int worker = 0; worker < market.workerTotal(); worker++) {
            if (!rules.canHold(worker, market.heldBy(worker))) {
                return false;
            }
        }
        for (int shift = 0; shift < market.shiftTotal(); shift++) {
            if (!Market.isWithin(market.coverage(shift), market.shiftPart(shift, Market.GUARANTEE),
                    market.shiftPart(shift, Market.NEED))) {
                return false;
            }
        }
        return true;
    }

    public double averageHours() throws ArithmeticException {
        int workers = market.workerTotal();
        if (workers == 0) {
            throw new ArithmeticException("there are no workers");
        }
        int sum = 0;
        for (int worker = 0; worker < workers; worker++) {
            sum += rules.hoursOf(market.heldBy(worker), Rules.ALL_WEEKS);
        }
        return (double) sum / (double) workers;
    }

    public float coveredShare() throws ArithmeticException {
        int needs = 0;
        for (int shift = 0; shift < market.shiftTotal(); shift++) {
            needs += market.shiftPart(shift, Market.NEED);
        }
        if (needs == 0) {
            throw new ArithmeticException("there are no shifts");
        }
        // Each award counts once in one coverage.
        return (float) market.awardTotal() / (float) needs;
    }

    // ---- changes

    public int undo() throws IllegalStateException {
        if (history.kept() == 0) {
            throw new IllegalStateException("there is nothing to take back");
        }
        history.takeBack(market.row);
        return history.kept();
    }

    public int save() {
        market.copyTo(saved);
        somethingSaved = true;
        return market.awardTotal();
    }

    public int restore() throws IllegalStateException {
        if (!somethingSaved) {
            throw new IllegalStateException("nothing was saved");
        }
        history.remember(market.row);
        market.copyFrom(saved);
        return market.awardTotal();
    }

    // ---- what several calls refuse

    private void requireWorker(int worker) {
        if (!market.isWorker(worker)) {
            throw new IndexOutOfBoundsException("no such worker");
        }
    }

    private void requireShift(int shift) {
        if (!market.isShift(shift)) {
            throw new IndexOutOfBoundsException("no such shift");
        }
    }

    private void requirePair(int worker, int shift) {
        requireWorker(worker);
        requireShift(shift);
    }

    private static void requirePart(int part, int last) {
        if (!Market.isWithin(part, 0, last)) {
            throw new IllegalArgumentException("no such part");
        }
    }

    /**
     * The workers, shifts, bids and awards. All of it stands in one row, so that nothing can be
     * forgotten when it is saved or taken back, and so that a copy makes no objects.
     */
    private static final class Market {
        static final int MAX_WORKERS = 10;
        static final int MAX_SHIFTS = 16;
        static final int MAX_NEED = 3;
        static final int MAX_AWARDS = MAX_SHIFTS * MAX_NEED;
        static final int MAX_BIDS = 8;
        static final int MAX_POINTS = 9;
        static final int HOURS_A_DAY = 24;
        static final int DAYS_A_WEEK = 7;

        static final int SENIORITY = 0;
        static final int REST = 1;
        static final int HOUR_LIMIT = 2;
        static final int DAY_LIMIT = 3;
        static final int SKILLS = 4;
        static final int WORKER_PARTS = 5;

        static final int DAY = 0;
        static final int HOUR = 1;
        static final int LENGTH = 2;
        static final int SKILL = 3;
        static final int NEED = 4;
        static final int GUARANTEE = 5;
        static final int BEGIN = 6;
        static final int END = 7;
        static final int WEEK = 8;
        static final int SHIFT_PARTS = 9;

        static final int AWARD_WORKER = 0;
        static final int AWARD_SHIFT = 1;
        static final int AWARD_PARTS = 2;

        static final int WORKER_TOTAL = 0;
        static final int SHIFT_TOTAL = 1;
        static final int AWARD_TOTAL = 2;
        static final int WORKERS = 3;
        static final int SHIFTS = WORKERS + MAX_WORKERS * WORKER_PARTS;
        static final int BIDS = SHIFTS + MAX_SHIFTS * SHIFT_PARTS;
        static final int AWARDS = BIDS + MAX_WORKERS * MAX_SHIFTS;
        static final int SIZE = AWARDS + MAX_AWARDS * AWARD_PARTS;

        final int[] row = new int[SIZE];

        static int bit(int number) {
            return 1 << number;
        }

        static boolean isIn(int number, int set) {
            return (set >> number & 1) != 0;
        }

        static boolean isWithin(int number, int least, int most) {
            return number >= least && number <= most;
        }

        static boolean isWorkerInRange(int seniority, int rest, int hourLimit, int dayLimit, int skills) {
            return isWithin(seniority, 0, 99) && isWithin(rest, 0, 24) && isWithin(hourLimit, 1, 168)
                    && isWithin(dayLimit, 1, 28) && isWithin(skills, 0, 15);
        }

        static boolean isShiftInRange(int day, int hour, int length, int skill, int need) {
            return isWithin(day, 0, 27) && isWithin(hour, 0, 23) && isWithin(length, 1, 12)
                    && isWithin(skill, 0, 3) && isWithin(need, 1, MAX_NEED);
        }

        static boolean isBidInRange(int points) {
            return isWithin(points, 0, MAX_POINTS);
        }

        /** Copies the row that begins at one place of an array to a place of another array. */
        static void copyRow(int[] from, int fromAt, int[] to, int toAt) {
            if (isRowAt(from, fromAt) && isRowAt(to, toAt)) {
                System.arraycopy(from, fromAt, to, toAt, SIZE);
            }
        }

        private static boolean isRowAt(int[] rows, int at) {
            return rows != null && at >= 0 && at <= rows.length - SIZE;
        }

        void copyTo(int[] other) {
            copyRow(row, 0, other, 0);
        }

        void copyFrom(int[] other) {
            copyRow(other, 0, row, 0);
        }

        private void put(int at, int value) {
            if (at >= 0 && at < row.length) {
                row[at] = value;
            }
        }

        int workerTotal() {
            return row[WORKER_TOTAL];
        }

        int shiftTotal() {
            return row[SHIFT_TOTAL];
        }

        int awardTotal() {
            return row[AWARD_TOTAL];
        }

        boolean isWorker(int number) {
            return number >= 0 && number < row[WORKER_TOTAL];
        }

        boolean isShift(int number) {
            return number >= 0 && number < row[SHIFT_TOTAL];
        }

        boolean isPair(int worker, int shift) {
            return isWorker(worker) && isShift(shift);
        }

        boolean isAward(int index) {
            return index >= 0 && index < row[AWARD_TOTAL];
        }

        boolean hasRoomForWorker() {
            return row[WORKER_TOTAL] < MAX_WORKERS;
        }

        boolean hasRoomForShift() {
            return row[SHIFT_TOTAL] < MAX_SHIFTS;
        }

        boolean hasRoomForBid(int worker, int shift, int points) {
            return points == 0 || pointsFor(worker, shift) != 0 || bidTotal(worker) < MAX_BIDS;
        }

        int enterWorker(int seniority, int rest, int hourLimit, int dayLimit, int skills) {
            int number = row[WORKER_TOTAL];
            int at = WORKERS + number * WORKER_PARTS;
            put(at + SENIORITY, seniority);
            put(at + REST, rest);
            put(at + HOUR_LIMIT, hourLimit);
            put(at + DAY_LIMIT, dayLimit);
            put(at + SKILLS, skills);
            put(WORKER_TOTAL, number + 1);
            return number;
        }

        int enterShift(int day, int hour, int length, int skill, int need) {
            int number = row[SHIFT_TOTAL];
            int at = SHIFTS + number * SHIFT_PARTS;
            int begin = HOURS_A_DAY * day + hour;
            put(at + DAY, day);
            put(at + HOUR, hour);
            put(at + LENGTH, length);
            put(at + SKILL, skill);
            put(at + NEED, need);
            put(at + GUARANTEE, 0);
            put(at + BEGIN, begin);
            put(at + END, begin + length);
            put(at + WEEK, day / DAYS_A_WEEK);
            put(SHIFT_TOTAL, number + 1);
            return number;
        }

        int enterBid(int worker, int shift, int points) {
            int previous = pointsFor(worker, shift);
            put(BIDS + worker * MAX_SHIFTS + shift, points);
            return previous;
        }

        int enterGuarantee(int shift, int guarantee) {
            int previous = shiftPart(shift, GUARANTEE);
            put(SHIFTS + shift * SHIFT_PARTS + GUARANTEE, guarantee);
            return previous;
        }

        // Each of these looks at its index itself: a method for all of them would make the calls too deep.

        int workerPart(int worker, int part) {
            int at = WORKERS + worker * WORKER_PARTS + part;
            return at >= 0 && at < row.length ? row[at] : 0;
        }

        int shiftPart(int shift, int part) {
            int at = SHIFTS + shift * SHIFT_PARTS + part;
            return at >= 0 && at < row.length ? row[at] : 0;
        }

        int pointsFor(int worker, int shift) {
            int at = BIDS + worker * MAX_SHIFTS + shift;
            return at >= 0 && at < row.length ? row[at] : 0;
        }

        int awardPart(int index, int part) {
            int at = AWARDS + index * AWARD_PARTS + part;
            return at >= 0 && at < row.length ? row[at] : 0;
        }

        int pointsForSet(int worker, int set) {
            int sum = 0;
            for (int shift = 0; shift < row[SHIFT_TOTAL]; shift++) {
                if (isIn(shift, set)) {
                    sum += pointsFor(worker, shift);
                }
            }
            return sum;
        }

        int bidTotal(int worker) {
            int total = 0;
            for (int shift = 0; shift < row[SHIFT_TOTAL]; shift++) {
                if (pointsFor(worker, shift) != 0) {
                    total++;
                }
            }
            return total;
        }

        int workerAtRank(int rank) {
            for (int worker = 0; worker < row[WORKER_TOTAL]; worker++) {
                if (rankOf(worker) == rank) {
                    return worker;
                }
            }
            return NONE;
        }

        int rankOf(int worker) {
            int rank = 0;
            for (int other = 0; other < row[WORKER_TOTAL]; other++) {
                if (comesBefore(other, worker)) {
                    rank++;
                }
            }
            return rank;
        }

        boolean comesBefore(int a, int b) {
            int seniorityA = workerPart(a, SENIORITY);
            int seniorityB = workerPart(b, SENIORITY);
            return seniorityA > seniorityB || seniorityA == seniorityB && a < b;
        }

        int awardIndex(int worker, int shift) {
            for (int index = 0; index < row[AWARD_TOTAL]; index++) {
                if (awardPart(index, AWARD_WORKER) == worker && awardPart(index, AWARD_SHIFT) == shift) {
                    return index;
                }
            }
            return NONE;
        }

        boolean holds(int worker, int shift) {
            return awardIndex(worker, shift) != NONE;
        }

        int heldBy(int worker) {
            int set = 0;
            for (int index = 0; index < row[AWARD_TOTAL]; index++) {
                if (awardPart(index, AWARD_WORKER) == worker) {
                    set |= bit(awardPart(index, AWARD_SHIFT));
                }
            }
            return set;
        }

        int holdersOf(int shift) {
            int set = 0;
            for (int index = 0; index < row[AWARD_TOTAL]; index++) {
                if (awardPart(index, AWARD_SHIFT) == shift) {
                    set |= bit(awardPart(index, AWARD_WORKER));
                }
            }
            return set;
        }

        int coverage(int shift) {
            return Integer.bitCount(holdersOf(shift));
        }

        void enterAward(int worker, int shift) {
            int index = row[AWARD_TOTAL];
            if (index >= MAX_AWARDS) {
                return;
            }
            put(AWARDS + index * AWARD_PARTS + AWARD_WORKER, worker);
            put(AWARDS + index * AWARD_PARTS + AWARD_SHIFT, shift);
            put(AWARD_TOTAL, index + 1);
        }

        void removeAward(int index) {
            if (!isAward(index)) {
                return;
            }
            int last = awardTotal() - 1;
            for (int place = index; place < last; place++) {
                put(AWARDS + place * AWARD_PARTS + AWARD_WORKER, awardPart(place + 1, AWARD_WORKER));
                put(AWARDS + place * AWARD_PARTS + AWARD_SHIFT, awardPart(place + 1, AWARD_SHIFT));
            }
            put(AWARD_TOTAL, last);
        }

        void reassign(int index, int worker) {
            if (isAward(index)) {
                put(AWARDS + index * AWARD_PARTS + AWARD_WORKER, worker);
            }
        }
    }

    /**
     * What stands against an award, and what follows from that. An obstacle is one int, its number
     * and its detail together, so that the many that are looked at make no objects.
     */
    private static final class Rules {
        static final int NO_OBSTACLE = 0;
        static final int ALL_WEEKS = -1;
        private static final int CODE_BASE = 100;
        private static final int ALREADY_HELD = 1;
        private static final int NO_SKILL = 2;
        private static final int COVERED = 3;
        private static final int OVERLAP = 4;
        private static final int SHORT_REST = 5;
        private static final int TOO_MANY_HOURS = 6;
        private static final int TOO_MANY_DAYS = 7;
        private static final int GUARANTEED = 8;
        private static final int DAY_COUNT = 28;

        final Market market = new Market();

        static int code(int number, int detail) {
            return number * CODE_BASE + detail;
        }

        static int numberOf(int code) {
            return code / CODE_BASE;
        }

        static int detailOf(int code) {
            return code % CODE_BASE;
        }

        int obstacleToAward(int worker, int shift) {
            return firstObstacle(worker, shift, market.heldBy(worker), true);
        }

        int obstacleToExchange(int worker, int given, int gotten) {
            return firstObstacle(worker, gotten, market.heldBy(worker) & ~Market.bit(given), false);
        }

        int obstacleToRevoke(int shift) {
            int guarantee = market.shiftPart(shift, Market.GUARANTEE);
            return market.coverage(shift) - 1 < guarantee ? code(GUARANTEED, guarantee) : NO_OBSTACLE;
        }

        private int firstObstacle(int worker, int shift, int set, boolean needCounts) {
            if (Market.isIn(shift, set)) {
                return code(ALREADY_HELD, shift);
            }
            if (!hasSkillFor(worker, shift)) {
                return code(NO_SKILL, market.shiftPart(shift, Market.SKILL));
            }
            int need = market.shiftPart(shift, Market.NEED);
            if (needCounts && market.coverage(shift) == need) {
                return code(COVERED, need);
            }
            return obstacleOfTime(worker, shift, set);
        }

        private boolean hasSkillFor(int worker, int shift) {
            return Market.isIn(market.shiftPart(shift, Market.SKILL), market.workerPart(worker, Market.SKILLS));
        }

        /** Looks at the obstacles 4 to 7 alone, with a set that the shift is not in. */
        private int obstacleOfTime(int worker, int shift, int set) {
            int other = lowestWithin(shift, set, 0);
            if (other != NONE) {
                return code(OVERLAP, other);
            }
            other = lowestWithin(shift, set, market.workerPart(worker, Market.REST));
            if (other != NONE) {
                return code(SHORT_REST, other);
            }
            int all = set | Market.bit(shift);
            int week = market.shiftPart(shift, Market.WEEK);
            if (hoursOf(all, week) > market.workerPart(worker, Market.HOUR_LIMIT)) {
                return code(TOO_MANY_HOURS, week);
            }
            int sequence = sequenceAround(market.shiftPart(shift, Market.DAY), daysOf(all));
            if (sequence > market.workerPart(worker, Market.DAY_LIMIT)) {
                return code(TOO_MANY_DAYS, sequence);
            }
            return NO_OBSTACLE;
        }

        /** Two shifts with fewer than 0 hours between them overlap. */
        private int lowestWithin(int shift, int set, int gap) {
            int begin = market.shiftPart(shift, Market.BEGIN);
            int end = market.shiftPart(shift, Market.END);
            for (int other = 0; other < market.shiftTotal(); other++) {
                if (Market.isIn(other, set) && begin - market.shiftPart(other, Market.END) < gap
                        && market.shiftPart(other, Market.BEGIN) - end < gap) {
                    return other;
                }
            }
            return NONE;
        }

        int hoursOf(int set, int week) {
            int sum = 0;
            for (int shift = 0; shift < market.shiftTotal(); shift++) {
                if (Market.isIn(shift, set) && (week == ALL_WEEKS || market.shiftPart(shift, Market.WEEK) == week)) {
                    sum += market.shiftPart(shift, Market.LENGTH);
                }
            }
            return sum;
        }

        private int daysOf(int set) {
            int days = 0;
            for (int shift = 0; shift < market.shiftTotal(); shift++) {
                if (Market.isIn(shift, set)) {
                    days |= Market.bit(market.shiftPart(shift, Market.DAY));
                }
            }
            return days;
        }

        private static int sequenceAround(int day, int days) {
            int first = day;
            while (first > 0 && Market.isIn(first - 1, days)) {
                first--;
            }
            int behind = day + 1;
            while (behind < DAY_COUNT && Market.isIn(behind, days)) {
                behind++;
            }
            return behind - first;
        }

        int longestSequence(int set) {
            int days = daysOf(set);
            int longest = 0;
            int current = 0;
            for (int day = 0; day < DAY_COUNT; day++) {
                current = Market.isIn(day, days) ? current + 1 : 0;
                longest = Math.max(longest, current);
            }
            return longest;
        }

        /**
         * Looks at all pairs, not only at neighbours: shifts that one worker holds do not overlap, so
         * a pair in the wrong order has fewer than 0 hours between it, and one of no neighbours more
         * than one of neighbours.
         */
        int leastGap(int set) {
            int least = NONE;
            for (int earlier = 0; earlier < market.shiftTotal(); earlier++) {
                for (int later = 0; later < market.shiftTotal(); later++) {
                    int gap = market.shiftPart(later, Market.BEGIN) - market.shiftPart(earlier, Market.END);
                    if (Market.isIn(earlier, set) && Market.isIn(later, set) && gap >= 0
                            && (least == NONE || gap < least)) {
                        least = gap;
                    }
                }
            }
            return least;
        }

        int choiceOf(int worker) {
            int held = market.heldBy(worker);
            int choice = NONE;
            for (int shift = 0; shift < market.shiftTotal(); shift++) {
                if (market.pointsFor(worker, shift) > 0
                        && (choice == NONE || isPreferred(worker, shift, choice))
                        && firstObstacle(worker, shift, held, true) == NO_OBSTACLE) {
                    choice = shift;
                }
            }
            return choice;
        }

        /** For a shift with a higher number than the choice: it must be better, not as good. */
        private boolean isPreferred(int worker, int shift, int choice) {
            int points = market.pointsFor(worker, shift);
            int choicePoints = market.pointsFor(worker, choice);
            int begin = market.shiftPart(shift, Market.BEGIN);
            return points > choicePoints
                    || points == choicePoints && begin < market.shiftPart(choice, Market.BEGIN);
        }

        /** Answers the partner times MAX_SHIFTS plus the shift that the worker gives, or NONE. */
        int findPartner(int worker, int shift) {
            int held = market.heldBy(worker);
            int holders = market.holdersOf(shift);
            for (int other = 0; other < market.workerTotal(); other++) {
                for (int given = 0; given < market.shiftTotal(); given++) {
                    if (other != worker && Market.isIn(other, holders) && Market.isIn(given, held)
                            && obstacleToExchange(worker, given, shift) == NO_OBSTACLE
                            && obstacleToExchange(other, shift, given) == NO_OBSTACLE) {
                        return other * Market.MAX_SHIFTS + given;
                    }
                }
            }
            return NONE;
        }

        boolean canHold(int worker, int set) {
            for (int shift = 0; shift < market.shiftTotal(); shift++) {
                if (Market.isIn(shift, set) && (!hasSkillFor(worker, shift)
                        || obstacleOfTime(worker, shift, set & ~Market.bit(shift)) != NO_OBSTACLE)) {
                    return false;
                }
            }
            return true;
        }

        int findBestSet(int worker) {
            int candidates = candidatesOf(worker);
            int subsets = Market.bit(Integer.bitCount(candidates));
            int best = 0;
            int most = 0;
            int set = 0;
            // The sets come in the order of their ints, so the first one with the most points is the least.
            for (int count = 1; count < subsets; count++) {
                set = (set - candidates) & candidates;
                int sum = market.pointsForSet(worker, set);
                if (sum > most && canHold(worker, set)) {
                    most = sum;
                    best = set;
                }
            }
            return best;
        }

        private int candidatesOf(int worker) {
            int set = 0;
            for (int shift = 0; shift < market.shiftTotal(); shift++) {
                if (market.pointsFor(worker, shift) > 0 && hasSkillFor(worker, shift)) {
                    set |= Market.bit(shift);
                }
            }
            return set;
        }
    }

    /** The changes that can be taken back: what stood before each of them, in a ring. */
    private static final class History {
        private static final int DEPTH = 8;

        private final int[] rows = new int[DEPTH * Market.SIZE];
        private int next = 0;
        private int kept = 0;

        int kept() {
            return kept;
        }

        void remember(int[] row) {
            Market.copyRow(row, 0, rows, next * Market.SIZE);
            next = (next + 1) % DEPTH;
            kept = Math.min(kept + 1, DEPTH);
        }

        void takeBack(int[] row) {
            if (kept == 0) {
                return;
            }
            next = (next + DEPTH - 1) % DEPTH;
            kept--;
            Market.copyRow(rows, next * Market.SIZE, row, 0);
        }
    }

    /** Why the latest award, revocation or exchange was refused. */
    private static final class Reason {
        int number = 0;
        int detail = 0;
        int worker = NONE;

        void set(int code, int asked) {
            number = Rules.numberOf(code);
            detail = Rules.detailOf(code);
            worker = code == Rules.NO_OBSTACLE ? NONE : asked;
        }
    }

    /** The text, and the items of the text that was read last. */
    private static final class ItemText {
        static final int WORKER = 'w';
        static final int SHIFT = 's';
        static final int BID = 'b';
        private static final int MAX_LENGTH = 80;
        // The shortest item and a ";" are seven characters; a twelfth item can begin, but not be read.
        private static final int MAX_ITEMS = 12;
        private static final int MAX_NUMBERS = 5;
        private static final int BID_NUMBERS = 3;
        private static final int MAX_DIGITS = 3;
        private static final int END = -1;

        private final int[] characters = new int[MAX_LENGTH];
        private int length = 0;
        private int position = 0;
        private final int[] kinds = new int[MAX_ITEMS];
        private final int[] numbers = new int[MAX_ITEMS * MAX_NUMBERS];
        private int items = 0;

        boolean isFull() {
            return length >= MAX_LENGTH;
        }

        int append(int character) {
            if (length >= 0 && length < characters.length) {
                characters[length] = character;
                length++;
            }
            return length;
        }

        void clear() {
            length = 0;
        }

        int itemTotal() {
            return items;
        }

        int kind(int item) {
            return item >= 0 && item < kinds.length ? kinds[item] : END;
        }

        int number(int item, int index) {
            int slot = item * MAX_NUMBERS + index;
            return slot >= 0 && slot < numbers.length ? numbers[slot] : 0;
        }

        /** Answers the fault position, or NONE. */
        int read() {
            position = 0;
            items = 0;
            for (int item = 0; item < MAX_ITEMS; item++) {
                if (!readItem(item)) {
                    return position;
                }
                items = item + 1;
                if (position == length) {
                    return NONE;
                }
                if (!readSign(';')) {
                    return position;
                }
            }
            return position;
        }

        private int nextCharacter() {
            boolean atCharacter = position >= 0 && position < length && position < characters.length;
            return atCharacter ? characters[position] : END;
        }

        private boolean readSign(int sign) {
            if (nextCharacter() != sign) {
                return false;
            }
            position++;
            return true;
        }

        private boolean readItem(int item) {
            int kind = nextCharacter();
            int amount = amountOfNumbers(kind);
            if (amount == 0 || item < 0 || item >= kinds.length) {
                return false;
            }
            kinds[item] = kind;
            position++;
            for (int index = 0; index < amount; index++) {
                if (index > 0 && !readSign(',') || !readNumber(item * MAX_NUMBERS + index)) {
                    return false;
                }
            }
            return true;
        }

        private static int amountOfNumbers(int kind) {
            if (kind == BID) {
                return BID_NUMBERS;
            }
            return kind == WORKER || kind == SHIFT ? MAX_NUMBERS : 0;
        }

        private boolean readNumber(int slot) {
            int value = 0;
            int digits = 0;
            while (digits < MAX_DIGITS && Market.isWithin(nextCharacter(), '0', '9')) {
                value = 10 * value + nextCharacter() - '0';
                position++;
                digits++;
            }
            if (slot >= 0 && slot < numbers.length) {
                numbers[slot] = value;
            }
            return digits > 0;
        }
    }
}
