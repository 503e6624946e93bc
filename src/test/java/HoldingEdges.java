/** The edges of promises 26 to 33: what is held, hours, days, rest and points, and the best set. */
final class HoldingEdges {
    private HoldingEdges() {
    }

    private static int[] at(int day, int hour, int length) {
        return ObstacleTest.at(day, hour, length);
    }

    /** A worker whom nothing limits, who holds all of the shifts. */
    private static ShiftMarket holding(int[]... shifts) {
        ShiftMarket x = new ShiftMarket();
        x.addWorker(0, 0, 168, 28, 1);
        for (int index = 0; index < shifts.length; index++) {
            x.addShift(shifts[index][0], shifts[index][1], shifts[index][2], 0, 1);
            x.award(0, index);
        }
        return x;
    }

    private static ShiftMarket oneHoldsAll() {
        ShiftMarket x = Check.full();
        for (int shift = 0; shift < 16; shift++) {
            x.award(9, shift);
        }
        return x;
    }

    // ---- promises 26 and 27: held and holders

    static void promise26HeldFromNothingToAll() {
        Edges.says("Returns the set of shifts, bit s for shift s.");
        ShiftMarket x = Check.full();
        Check.equal("nothing", 0, x.held(9));
        x.award(9, 0);
        Check.equal("the first shift", 1, x.held(9));
        x.award(8, 15);
        Check.equal("the last shift", 32768, x.held(8));
        Check.equal("all shifts, and nothing", "65535 0", Check.row(oneHoldsAll().held(9), oneHoldsAll().held(0)));
        Check.equal("no shifts", 0, Edges.workersAlone().held(2));
    }

    static void promise26HeldNoSuchWorker() {
        Edges.says("Throws IndexOutOfBoundsException if there is no such worker");
        Edges.refusesNoWorker(ShiftMarket::held);
    }

    static void promise27HoldersFromNoneToThree() {
        Edges.says("Returns the set of workers, bit w for worker w.");
        ShiftMarket x = Check.full();
        Check.equal("none", 0, x.holders(15));
        x.award(9, 15);
        Check.equal("the last worker", 512, x.holders(15));
        x.award(0, 15);
        x.award(8, 15);
        Check.equal("three", "769 0", Check.row(x.holders(15), x.holders(14)));
        Check.equal("no workers", 0, Edges.shiftsAlone().holders(3));
    }

    static void promise27HoldersNoSuchShift() {
        Edges.says("Throws IndexOutOfBoundsException if there is no such shift");
        Edges.refusesNoShift(ShiftMarket::holders);
    }

    // ---- promise 28: hours

    static void promise28HoursWeeks() {
        Edges.says("week: the week, 0 to 3, or -1 for all weeks");
        ShiftMarket x = holding(at(0, 0, 1), at(6, 23, 12), at(7, 12, 2), at(13, 23, 1), at(14, 0, 4), at(20, 23, 1),
                at(21, 0, 6), at(27, 23, 12));
        Check.equal("each week from its first to its last day, and all", "13 3 5 18 39", Check.row(x.hours(0, 0),
                x.hours(0, 1), x.hours(0, 2), x.hours(0, 3), x.hours(0, -1)));
        ShiftMarket y = Check.full();
        Check.equal("no hours", "0 0 0", Check.row(y.hours(9, 0), y.hours(9, 3), y.hours(9, -1)));
    }

    static void promise28HoursNoSuchWorker() {
        Edges.says("Throws IndexOutOfBoundsException if there is no such worker");
        Edges.refusesNoWorker((y, wrong) -> y.hours(wrong, 0));
        Edges.refusesNoWorker((y, wrong) -> y.hours(wrong, -1));
    }

    static void promise28HoursNoSuchWeek() {
        Edges.says("Throws IllegalArgumentException if there is no such week");
        Edges.refusesOutside("week", -1, 3, Check.ARGUMENT, Check::busy, (y, wrong) -> y.hours(0, wrong));
        Edges.refusesOutside("week", -1, 3, Check.ARGUMENT, Check::crowded, (y, wrong) -> y.hours(9, wrong));
    }

    static void promise28HoursOrderOfExceptions() {
        Edges.says(Edges.ORDER);
        Check.refuses("no worker, no week", Check.INDEX, Check::busy, y -> y.hours(3, 4));
        Check.refuses("no worker below, no week", Check.INDEX, Check::busy, y -> y.hours(-1, -2));
    }

    // ---- promise 29: daysInRow

    static void promise29DaysInRowFrom0To16() {
        Edges.says("Returns the length of the longest sequence of consecutive days on each of which a shift begins that"
                + " a worker holds.");
        Check.equal("no shift", "0 0", Check.row(Check.full().daysInRow(9), Edges.workersAlone().daysInRow(0)));
        Check.equal("one shift", "1 1", Check.row(holding(at(0, 0, 1)).daysInRow(0),
                holding(at(27, 23, 12)).daysInRow(0)));
        Check.equal("all shifts", 16, oneHoldsAll().daysInRow(9));
        int[][] last = new int[16][];
        for (int index = 0; index < 16; index++) {
            last[index] = at(27 - index, 23, 1);
        }
        Check.equal("the last days", 16, holding(last).daysInRow(0));
    }

    static void promise29DaysInRowOfSeveral() {
        Edges.says("Returns the length of the longest sequence of consecutive days");
        Check.equal("two on one day", 1, holding(at(5, 0, 1), at(5, 1, 1)).daysInRow(0));
        Check.equal("a night into the next day", 1, holding(at(5, 23, 12), at(7, 0, 1)).daysInRow(0));
        Check.equal("over the end of a week", 2, holding(at(7, 0, 1), at(6, 0, 1)).daysInRow(0));
        Check.equal("the last day is not before the first", 2,
                holding(at(0, 0, 1), at(27, 0, 1), at(26, 0, 1)).daysInRow(0));
        Check.equal("the longer one comes first", 2, holding(at(1, 0, 1), at(2, 0, 1), at(4, 0, 1)).daysInRow(0));
        Check.equal("the longer one comes last", 2, holding(at(1, 0, 1), at(3, 0, 1), at(4, 0, 1)).daysInRow(0));
    }

    static void promise29DaysInRowNoSuchWorker() {
        Edges.says("Throws IndexOutOfBoundsException if there is no such worker");
        Edges.refusesNoWorker(ShiftMarket::daysInRow);
    }

    // ---- promise 30: shortestRest

    static void promise30ShortestRestFrom0() {
        Edges.says("Returns the least number of hours between the end of one and the beginning of the next one");
        Check.equal("no hour", 0, holding(at(3, 8, 4), at(3, 12, 4)).shortestRest(0));
        Check.equal("no hour, the later one first", 0, holding(at(3, 12, 4), at(3, 8, 4)).shortestRest(0));
        Check.equal("an hour", 1, holding(at(3, 8, 4), at(3, 13, 4)).shortestRest(0));
        Check.equal("all hours", 670, holding(at(0, 0, 1), at(27, 23, 12)).shortestRest(0));
        Check.equal("of three", 4, holding(at(3, 16, 4), at(3, 0, 3), at(3, 8, 4)).shortestRest(0));
        Check.equal("of sixteen", 23, oneHoldsAll().shortestRest(9));
    }

    static void promise30ShortestRestOfFewerThanTwo() {
        Edges.says("Throws NoSuchElementException if the worker holds fewer than two shifts");
        Check.refuses("none", Check.ELEMENT, Check::busy, y -> y.shortestRest(2));
        Check.refuses("one", Check.ELEMENT, Check::busy, y -> y.shortestRest(0));
        Check.refuses("one, the last", Check.ELEMENT, Check::crowded, y -> y.shortestRest(9));
        Check.equal("two", 16, Check.busy().shortestRest(1));
        ShiftMarket x = Check.busy();
        x.revoke(1, 1);
        Check.equal("one of two", "NoSuchElementException", Check.thrownBy(x, y -> y.shortestRest(1)));
    }

    static void promise30ShortestRestNoSuchWorker() {
        Edges.says("Throws IndexOutOfBoundsException if there is no such worker");
        Edges.refusesNoWorker(ShiftMarket::shortestRest);
    }

    static void promise30ShortestRestOrderOfExceptions() {
        Edges.says(Edges.ORDER);
        Check.refuses("no worker holds anything", Check.INDEX, Check::full, y -> y.shortestRest(10));
    }

    // ---- promise 31: points

    static void promise31PointsFrom0To72() {
        Edges.says("Returns the sum of the points that a worker has bid for the shifts that the worker holds.");
        ShiftMarket x = oneHoldsAll();
        Check.equal("no bid", 0, x.points(9));
        for (int shift = 8; shift < 16; shift++) {
            x.setBid(9, shift, 9);
        }
        Check.equal("eight bids of 9", 72, x.points(9));
        x.revoke(9, 15);
        x.setBid(9, 8, 0);
        Check.equal("without one held, and without one bid", 54, x.points(9));
        Check.equal("bids, but nothing held", 0, Check.crowded().points(4));
        Check.equal("no shifts", 0, Edges.workersAlone().points(0));
    }

    static void promise31PointsNoSuchWorker() {
        Edges.says("Throws IndexOutOfBoundsException if there is no such worker");
        Edges.refusesNoWorker(ShiftMarket::points);
    }

    // ---- promises 32 and 33: bestSet and bestPoints

    /** Worker 0 has skill 0 and these limits, and bids for each shift, given with day, hour, length and points. */
    private static String best(int rest, int hours, int days, int[]... shifts) {
        ShiftMarket x = new ShiftMarket();
        x.addWorker(0, rest, hours, days, 1);
        for (int index = 0; index < shifts.length; index++) {
            x.addShift(shifts[index][0], shifts[index][1], shifts[index][2], 0, 1);
            x.setBid(0, index, shifts[index][3]);
        }
        return Check.row(x.bestSet(0), x.bestPoints(0));
    }

    private static int[] bid(int day, int hour, int length, int points) {
        return new int[] {day, hour, length, points};
    }

    static void promise32BestSetEmpty() {
        Edges.says("The best set is the one that suits and has the greatest sum of points");
        Check.equal("no bids", "0 0", Check.row(Check.full().bestSet(9), Check.full().bestPoints(9)));
        Check.equal("no shifts", "0 0", Check.row(Edges.workersAlone().bestSet(2), Edges.workersAlone().bestPoints(2)));
        Check.equal("more hours than may be", "0 0", best(0, 1, 28, bid(0, 0, 2, 9)));
        ShiftMarket x = new ShiftMarket();
        x.addWorker(0, 0, 168, 28, 7);
        x.addShift(0, 0, 1, 3, 1);
        x.setBid(0, 0, 9);
        Check.equal("no skill", "0 0", Check.row(x.bestSet(0), x.bestPoints(0)));
    }

    static void promise32BestSetOfAllBids() {
        Edges.says("A set of shifts suits a worker if there is a bid of the worker for each of them");
        ShiftMarket x = Check.full();
        for (int count = 0; count < 8; count++) {
            x.setBid(0, count, 9);
            x.setBid(9, 15 - count, 9);
            x.setBid(5, 2 * count + 1, 1);
        }
        Check.equal("the first eight, the last eight, every second one", "255 65280 43690", Check.row(x.bestSet(0),
                x.bestSet(9), x.bestSet(5)));
    }

    static void promise32BestSetAtTheLimits() {
        Edges.says("none of them has one of the obstacles 4 to 7 with the others as the set");
        Check.equal("no overlap", "3 2", best(0, 168, 28, bid(3, 0, 8, 1), bid(3, 8, 8, 1)));
        Check.equal("an hour of overlap", "2 2", best(0, 168, 28, bid(3, 0, 8, 1), bid(3, 7, 8, 2)));
        Check.equal("as much rest", "3 2", best(8, 168, 28, bid(3, 0, 8, 1), bid(3, 16, 8, 1)));
        Check.equal("an hour less", "2 2", best(8, 168, 28, bid(3, 0, 8, 1), bid(3, 15, 8, 2)));
        Check.equal("as many hours", "3 2", best(0, 16, 28, bid(0, 0, 8, 1), bid(6, 0, 8, 1)));
        Check.equal("an hour more", "2 2", best(0, 15, 28, bid(0, 0, 8, 1), bid(6, 0, 8, 2)));
        Check.equal("of two weeks", "3 3", best(0, 8, 28, bid(6, 0, 8, 1), bid(7, 0, 8, 2)));
        Check.equal("as many days", "3 2", best(0, 168, 2, bid(0, 0, 1, 1), bid(1, 0, 1, 1)));
        Check.equal("a day more", "2 2", best(0, 168, 1, bid(0, 0, 1, 1), bid(1, 0, 1, 2)));
        Check.equal("a day between", "5 2", best(0, 168, 1, bid(0, 0, 1, 1), bid(1, 0, 1, 1), bid(2, 0, 1, 1)));
        Check.equal("a day more of three", "6 5", best(0, 168, 2, bid(0, 0, 1, 1), bid(1, 0, 1, 2),
                bid(2, 0, 1, 3)));
    }

    static void promise32BestSetOfSeveral() {
        Edges.says("of several the one that is least as an int.");
        Check.equal("one of two", "1 5", best(0, 168, 1, bid(0, 0, 1, 5), bid(1, 0, 1, 5)));
        Check.equal("a point more", "2 6", best(0, 168, 1, bid(0, 0, 1, 5), bid(1, 0, 1, 6)));
        Check.equal("two of less before one of more", "3 9", best(0, 168, 28, bid(0, 0, 1, 4), bid(0, 1, 1, 5),
                bid(0, 0, 2, 9)));
        Check.equal("one of more before two of less", "1 9", best(0, 168, 28, bid(0, 0, 2, 9), bid(0, 1, 1, 5),
                bid(0, 0, 1, 4)));
        Check.equal("a point more than two together", "4 9", best(0, 168, 28, bid(0, 0, 1, 4), bid(0, 1, 1, 4),
                bid(0, 0, 2, 9)));
    }

    static void promise32BestSetWithoutAwards() {
        Edges.says("Awards do not matter.");
        ShiftMarket x = Check.crowded();
        for (int worker = 0; worker < 3; worker++) {
            x.award(worker, 0);
        }
        x.award(4, 7);
        x.award(4, 15);
        Check.equal("covered, and held", "255 36", Check.row(x.bestSet(4), x.bestPoints(4)));
    }

    static void promise32BestSetNoSuchWorker() {
        Edges.says("Throws IndexOutOfBoundsException if there is no such worker");
        Edges.refusesNoWorker(ShiftMarket::bestSet);
    }

    static void promise33BestPointsFrom0To72() {
        Edges.says("Returns the sum of the points of the best set for a worker.");
        ShiftMarket x = Check.full();
        Check.equal("no bids", 0, x.bestPoints(9));
        x.setBid(9, 15, 1);
        Check.equal("a bid of 1", 1, x.bestPoints(9));
        for (int shift = 8; shift < 16; shift++) {
            x.setBid(9, shift, 9);
        }
        Check.equal("eight bids of 9", 72, x.bestPoints(9));
        x.setBid(9, 8, 0);
        Check.equal("seven bids of 9", 63, x.bestPoints(9));
    }

    static void promise33BestPointsNoSuchWorker() {
        Edges.says("Throws IndexOutOfBoundsException if there is no such worker");
        Edges.refusesNoWorker(ShiftMarket::bestPoints);
    }
}
