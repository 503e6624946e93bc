/** The edges of promise 15: each obstacle just there, and just not there. */
final class ObstacleEdges {
    private ObstacleEdges() {
    }

    private static int[] at(int day, int hour, int length) {
        return ObstacleTest.at(day, hour, length);
    }

    /** The obstacle against the last shift for a worker who holds the others. */
    private static void last(String due, int rest, int hours, int days, int[]... shifts) {
        ShiftMarket x = ObstacleTest.market(rest, hours, days, shifts);
        Check.equal("the others are held", shifts.length - 1, x.awardCount());
        Check.equal("rest " + rest + ", hours " + hours + ", days " + days + ", " + shifts.length + " shifts", due,
                ObstacleTest.of(x, 0, shifts.length - 1));
    }

    private static void lastWithRest(String due, int rest, int[]... shifts) {
        last(due, rest, 168, 28, shifts);
    }

    private static void lastWithHours(String due, int hours, int[]... shifts) {
        last(due, 0, hours, 28, shifts);
    }

    private static void lastWithDays(String due, int days, int[]... shifts) {
        last(due, 0, 168, days, shifts);
    }

    /** Shifts of one hour on each of these days. */
    private static int[][] onDays(int... days) {
        int[][] shifts = new int[days.length][];
        for (int index = 0; index < days.length; index++) {
            shifts[index] = at(days[index], 0, 1);
        }
        return shifts;
    }

    static void promise15ObstacleInTheSet() {
        Edges.says("There are these obstacles, in this order, each with a number and a detail: 1 the shift is in the"
                + " set; detail: the shift.");
        ShiftMarket x = Check.full();
        Check.equal("not yet", "0 0", ObstacleTest.of(x, 0, 0));
        x.award(0, 0);
        x.award(9, 15);
        Check.equal("the first shift, the last one", "1 0 1 15", ObstacleTest.of(x, 0, 0) + " "
                + ObstacleTest.of(x, 9, 15));
        Check.equal("of others", "0 0 0 0", ObstacleTest.of(x, 1, 0) + " " + ObstacleTest.of(x, 8, 15));
        x.revoke(9, 15);
        Check.equal("no longer", "0 0", ObstacleTest.of(x, 9, 15));
    }

    static void promise15ObstacleSkill() {
        Edges.says("2 the worker has not the skill of the shift; detail: the skill.");
        ShiftMarket x = new ShiftMarket();
        for (int skills : new int[] {0, 15, 1, 14, 8, 7}) {
            x.addWorker(0, 0, 168, 28, skills);
        }
        x.addShift(0, 0, 1, 0, 3);
        x.addShift(1, 0, 1, 3, 3);
        String[] first = {"2 0", "0 0", "0 0", "2 0", "2 0", "0 0"};
        String[] last = {"2 3", "0 0", "2 3", "0 0", "0 0", "2 3"};
        for (int worker = 0; worker < 6; worker++) {
            Check.equal("skill 0 of worker " + worker, first[worker], ObstacleTest.of(x, worker, 0));
            Check.equal("skill 3 of worker " + worker, last[worker], ObstacleTest.of(x, worker, 1));
        }
    }

    static void promise15ObstacleCoverage() {
        Edges.says("3 the coverage of the shift is its need; detail: the need.");
        ShiftMarket x = Edges.workersAlone();
        x.addWorker(0, 0, 168, 28, 15);
        for (int need = 1; need <= 3; need++) {
            x.addShift(need, 0, 1, 0, need);
            for (int worker = 0; worker < need; worker++) {
                Check.equal("one is missing at least", "0 0", ObstacleTest.of(x, 3, need - 1));
                x.award(worker, need - 1);
            }
            Check.equal("none is missing", "3 " + need, ObstacleTest.of(x, 3, need - 1));
            x.revoke(0, need - 1);
            Check.equal("one is missing again", "0 0", ObstacleTest.of(x, 3, need - 1));
        }
    }

    static void promise15ObstacleOverlap() {
        Edges.says("4 the shift and another one of the set overlap, that is, each begins before the other one ends;"
                + " detail: the lowest other one.");
        lastWithRest("4 0", 0, at(3, 8, 8), at(3, 8, 8));
        lastWithRest("4 0", 0, at(3, 8, 8), at(3, 15, 8));
        lastWithRest("0 0", 0, at(3, 8, 8), at(3, 16, 8));
        lastWithRest("4 0", 0, at(3, 8, 8), at(3, 1, 8));
        lastWithRest("0 0", 0, at(3, 8, 8), at(3, 0, 8));
        lastWithRest("4 0", 0, at(3, 8, 8), at(3, 11, 1));
        lastWithRest("4 0", 0, at(3, 11, 1), at(3, 8, 8));
        lastWithRest("4 0", 0, at(0, 0, 1), at(0, 0, 12));
        lastWithRest("4 0", 0, at(27, 23, 12), at(27, 12, 12));
        lastWithRest("0 0", 0, at(27, 23, 12), at(27, 11, 12));
        lastWithRest("4 0", 0, at(6, 23, 2), at(7, 0, 1));
        lastWithRest("0 0", 0, at(6, 23, 1), at(7, 0, 1));
        lastWithRest("4 1", 0, at(3, 0, 8), at(3, 8, 1), at(3, 9, 1), at(3, 8, 8));
    }

    static void promise15ObstacleRest() {
        Edges.says("5 between the end of one and the beginning of the other one, of the shift and another one of the"
                + " set, are fewer hours than the rest of the worker; detail: the lowest other one.");
        lastWithRest("0 0", 0, at(3, 8, 4), at(3, 12, 4));
        lastWithRest("5 0", 1, at(3, 8, 4), at(3, 12, 4));
        lastWithRest("0 0", 1, at(3, 8, 4), at(3, 13, 4));
        lastWithRest("5 0", 1, at(3, 12, 4), at(3, 8, 4));
        lastWithRest("0 0", 1, at(3, 13, 4), at(3, 8, 4));
        lastWithRest("5 0", 24, at(3, 8, 4), at(4, 11, 4));
        lastWithRest("0 0", 24, at(3, 8, 4), at(4, 12, 4));
        lastWithRest("5 0", 24, at(4, 11, 4), at(3, 8, 4));
        lastWithRest("0 0", 24, at(4, 12, 4), at(3, 8, 4));
        lastWithRest("5 1", 11, at(0, 0, 1), at(5, 0, 1), at(4, 0, 1), at(4, 12, 4));
        lastWithRest("5 2", 11, at(0, 0, 1), at(4, 0, 1), at(5, 0, 1), at(4, 12, 4));
        lastWithRest("5 1", 12, at(0, 0, 1), at(4, 0, 1), at(5, 0, 1), at(4, 12, 4));
    }

    static void promise15ObstacleHours() {
        Edges.says("6 the lengths of the shift and of those of the set that belong to the same week are together more"
                + " than the limit of hours; detail: the week.");
        lastWithHours("0 0", 1, at(0, 0, 1));
        lastWithHours("6 0", 1, at(0, 0, 2));
        lastWithHours("6 0", 1, at(0, 0, 1), at(6, 0, 1));
        lastWithHours("0 0", 2, at(0, 0, 1), at(6, 0, 1));
        lastWithHours("0 0", 24, at(0, 0, 12), at(2, 0, 12));
        lastWithHours("6 0", 23, at(0, 0, 12), at(2, 0, 12));
        lastWithHours("6 3", 23, at(21, 0, 12), at(27, 23, 12));
    }

    static void promise15ObstacleHoursOfTheWeek() {
        Edges.says("It belongs to the week that is its day divided by 7, rounded down.");
        for (int week = 0; week < 3; week++) {
            int next = 7 * week + 7;
            lastWithHours("0 0", 2, at(next - 1, 23, 2), at(next, 1, 2));
            lastWithHours("0 0", 2, at(next, 1, 2), at(next - 1, 23, 2));
            lastWithHours("6 " + week, 2, at(next - 7, 0, 1), at(next - 1, 23, 2));
            lastWithHours("6 " + (week + 1), 2, at(next, 0, 1), at(next + 6, 23, 2));
        }
    }

    static void promise15ObstacleHoursOfAFullWeek() {
        Edges.says("6 the lengths of the shift and of those of the set that belong to the same week are together more"
                + " than the limit of hours");
        int[][] shifts = new int[15][];
        for (int index = 0; index < 13; index++) {
            shifts[index] = at(index / 2, index % 2 * 12, 12);
        }
        shifts[13] = at(6, 12, 11);
        shifts[14] = at(6, 23, 1);
        lastWithHours("0 0", 168, shifts);
        shifts[14] = at(6, 23, 2);
        lastWithHours("6 0", 168, shifts);
    }

    static void promise15ObstacleDays() {
        Edges.says("7 the longest sequence of consecutive days that contains the day of the shift, and on each of which"
                + " the shift or one of the set begins, is longer than the limit of days; detail: its length.");
        lastWithDays("0 0", 1, onDays(0));
        lastWithDays("7 2", 1, onDays(0, 1));
        lastWithDays("7 2", 1, onDays(1, 0));
        lastWithDays("0 0", 2, onDays(0, 1));
        lastWithDays("0 0", 1, onDays(0, 2));
        lastWithDays("7 2", 1, onDays(26, 27));
        lastWithDays("7 2", 1, onDays(27, 26));
        lastWithDays("0 0", 1, onDays(0, 27));
        lastWithDays("7 3", 2, onDays(0, 2, 1));
        lastWithDays("0 0", 3, onDays(0, 2, 1));
        lastWithDays("0 0", 2, onDays(0, 1, 3, 4, 6));
        // The shift and another one begin on one day; and a shift that ends on the next day does not begin there.
        lastWithDays("0 0", 1, at(5, 0, 1), at(5, 1, 1));
        lastWithDays("0 0", 1, at(5, 23, 12), at(7, 0, 1));
    }

    static void promise15ObstacleDaysOfAllShifts() {
        Edges.says("is longer than the limit of days; detail: its length.");
        int[] first = new int[16];
        int[] last = new int[16];
        for (int index = 0; index < 16; index++) {
            first[index] = index;
            last[index] = 27 - index;
        }
        lastWithDays("7 16", 15, onDays(first));
        lastWithDays("0 0", 16, onDays(first));
        lastWithDays("7 16", 15, onDays(last));
        lastWithDays("0 0", 28, onDays(last));
    }

    static void promise15ObstacleNone() {
        Edges.says("Returns the number or the detail; 0 if there is no obstacle.");
        ShiftMarket x = Check.full();
        Check.equal("none", "0 0 0 0", ObstacleTest.of(x, 0, 0) + " " + ObstacleTest.of(x, 9, 15));
    }

    static void promise15ObstaclePart() {
        Edges.says("part: 0 for the number, 1 for the detail");
        ShiftMarket x = Check.crowded();
        Check.equal("number and detail", "1 15", Check.row(x.obstacle(9, 15, 0), x.obstacle(9, 15, 1)));
    }

    static void promise15ObstacleNoSuchWorkerOrShift() {
        Edges.says("Throws IndexOutOfBoundsException if there is no such worker or shift");
        Edges.refusesNoWorker((y, wrong) -> y.obstacle(wrong, 0, 0));
        Edges.refusesNoShift((y, wrong) -> y.obstacle(0, wrong, 1));
        Check.refuses("neither", Check.INDEX, Check::busy, y -> y.obstacle(3, 4, 0));
    }

    static void promise15ObstacleNoSuchPart() {
        Edges.says("Throws IllegalArgumentException if the part is out of range");
        Edges.refusesOutside("part", 0, 1, Check.ARGUMENT, Check::busy, (y, wrong) -> y.obstacle(0, 0, wrong));
        Edges.refusesOutside("part", 0, 1, Check.ARGUMENT, Check::crowded, (y, wrong) -> y.obstacle(9, 15, wrong));
    }

    static void promise15ObstacleOrderOfExceptions() {
        Edges.says(Edges.ORDER);
        Check.refuses("no worker, no part", Check.INDEX, Check::busy, y -> y.obstacle(3, 0, 2));
        Check.refuses("no shift, no part", Check.INDEX, Check::busy, y -> y.obstacle(0, -1, -1));
    }

    static void promise15ObstacleTheFirstOneCounts() {
        Edges.says("The first obstacle counts.");
        ShiftMarket x = new ShiftMarket();
        x.addWorker(0, 10, 8, 1, 1);
        x.addWorker(0, 0, 168, 28, 3);
        x.addShift(1, 8, 6, 0, 1);
        x.addShift(2, 0, 6, 1, 1);
        x.addShift(1, 13, 6, 0, 1);
        x.addShift(1, 15, 6, 0, 1);
        x.addShift(3, 8, 3, 0, 1);
        x.award(0, 0);
        x.award(1, 1);
        x.award(1, 2);
        Check.equal("1 before 3", "1 0", ObstacleTest.of(x, 0, 0));
        Check.equal("2 before 3", "2 1", ObstacleTest.of(x, 0, 1));
        Check.equal("3 before 4", "3 1", ObstacleTest.of(x, 0, 2));
        x.revoke(1, 2);
        Check.equal("4 before 6", "4 0", ObstacleTest.of(x, 0, 2));
        Check.equal("5 before 6", "5 0", ObstacleTest.of(x, 0, 3));
        Check.equal("6 alone", "6 0", ObstacleTest.of(x, 0, 4));
        ShiftMarket days = ObstacleTest.market(0, 8, 1, at(1, 8, 6), at(2, 8, 3));
        Check.equal("6 before 7", "6 0", ObstacleTest.of(days, 0, 1));
    }
}
