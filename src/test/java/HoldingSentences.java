/** What promises 26 to 33 say of ordinary calls, a test for each sentence. */
final class HoldingSentences {
    private HoldingSentences() {
    }

    /**
     * Four workers whom nothing limits, and ten shifts in all weeks. Worker 0 holds the shifts 0, 1, 2 and 7, worker
     * 1 the shifts 2, 4 and 6, worker 2 the shifts 8 and 9, and worker 3 the shift 5.
     */
    private static ShiftMarket held() {
        ShiftMarket x = new ShiftMarket();
        for (int worker = 0; worker < 4; worker++) {
            x.addWorker(0, 0, 168, 28, 15);
        }
        int[][] shifts = {{5, 8, 1}, {6, 8, 2}, {7, 8, 3}, {8, 8, 4}, {8, 20, 5}, {13, 8, 6}, {14, 8, 7}, {20, 8, 8},
            {21, 8, 9}, {22, 8, 10}};
        for (int[] shift : shifts) {
            x.addShift(shift[0], shift[1], shift[2], 0, 2);
        }
        int[][] awards = {{0, 7}, {1, 6}, {0, 2}, {3, 5}, {0, 0}, {2, 9}, {1, 2}, {1, 4}, {2, 8}, {0, 1}};
        for (int[] award : awards) {
            x.award(award[0], award[1]);
        }
        return x;
    }

    // ---- promises 26 and 27: held and holders

    static void promise26HeldByThisWorker() {
        Edges.says("Returns what a worker holds.");
        Edges.says("worker: the number of the worker");
        ShiftMarket x = held();
        Check.equal("each worker", "135 84 768 32", Check.row(x.held(0), x.held(1), x.held(2), x.held(3)));
        x.revoke(0, 2);
        Check.equal("after a revocation", "131 84 768 32", Check.row(x.held(0), x.held(1), x.held(2), x.held(3)));
        x.exchange(0, 0, 2, 9);
        Check.equal("after an exchange", "642 84 257 32", Check.row(x.held(0), x.held(1), x.held(2), x.held(3)));
    }

    static void promise27HoldersOfThisShift() {
        Edges.says("Returns who holds a shift.");
        Edges.says("shift: the number of the shift");
        ShiftMarket x = held();
        Check.equal("each shift", "1 1 3 0 2 8 2 1 4 4", Check.row(x.holders(0), x.holders(1), x.holders(2),
                x.holders(3), x.holders(4), x.holders(5), x.holders(6), x.holders(7), x.holders(8), x.holders(9)));
        x.exchange(1, 2, 3, 5);
        Check.equal("after an exchange", "9 2", Check.row(x.holders(2), x.holders(5)));
        x.award(3, 3);
        Check.equal("after an award", "9 8", Check.row(x.holders(2), x.holders(3)));
    }

    // ---- promises 28 to 31: hours, daysInRow, shortestRest and points

    private static String hoursOf(ShiftMarket x, int worker) {
        return Check.row(x.hours(worker, 0), x.hours(worker, 1), x.hours(worker, 2), x.hours(worker, 3),
                x.hours(worker, -1));
    }

    static void promise28HoursOfThisWorkerInThisWeek() {
        Edges.says("Returns the sum of the lengths of the shifts that a worker holds in a week.");
        Edges.says("worker: the number of the worker");
        Edges.says("Returns the hours.");
        ShiftMarket x = held();
        Check.equal("worker 0", "3 3 8 0 14", hoursOf(x, 0));
        Check.equal("worker 1", "0 8 7 0 15", hoursOf(x, 1));
        Check.equal("worker 2", "0 0 0 19 19", hoursOf(x, 2));
        Check.equal("worker 3", "0 6 0 0 6", hoursOf(x, 3));
        x.award(3, 3);
        x.revoke(2, 8);
        Check.equal("after an award", "0 10 0 0 10", hoursOf(x, 3));
        Check.equal("after a revocation", "0 0 0 10 10", hoursOf(x, 2));
    }

    static void promise29DaysInRowOfThisWorker() {
        Edges.says("Returns the length of the longest sequence of consecutive days on each of which a shift begins that"
                + " a worker holds.");
        Edges.says("worker: the number of the worker");
        Edges.says("Returns the number of days.");
        ShiftMarket x = held();
        Check.equal("each worker", "3 2 2 1", Check.row(x.daysInRow(0), x.daysInRow(1), x.daysInRow(2),
                x.daysInRow(3)));
        x.award(0, 4);
        Check.equal("after an award", "4 2 2 1", Check.row(x.daysInRow(0), x.daysInRow(1), x.daysInRow(2),
                x.daysInRow(3)));
        x.revoke(1, 2);
        Check.equal("after a revocation", "4 1 2 1", Check.row(x.daysInRow(0), x.daysInRow(1), x.daysInRow(2),
                x.daysInRow(3)));
    }

    static void promise30ShortestRestOfThisWorker() {
        Edges.says("Returns the least number of hours between the end of one and the beginning of the next one of the"
                + " shifts that a worker holds, in the order of their beginnings.");
        Edges.says("worker: the number of the worker");
        Edges.says("Returns the number of hours.");
        ShiftMarket x = held();
        Check.equal("each worker with several", "22 33 15", Check.row(x.shortestRest(0), x.shortestRest(1),
                x.shortestRest(2)));
        x.revoke(0, 1);
        Check.equal("one between the others is revoked", 47, x.shortestRest(0));
        x.award(0, 4);
        Check.equal("another one is awarded", 33, x.shortestRest(0));
        x.award(0, 3);
        Check.equal("one more on the same day", 8, x.shortestRest(0));
    }

    static void promise31PointsOfThisWorker() {
        Edges.says("worker: the number of the worker");
        Edges.says("Returns the sum.");
        ShiftMarket x = held();
        for (int worker = 0; worker < 4; worker++) {
            for (int shift = 2; shift < 8; shift++) {
                x.setBid(worker, shift, 1 + (worker + shift) % 9);
            }
        }
        Check.equal("each worker", "11 18 0 9", Check.row(x.points(0), x.points(1), x.points(2), x.points(3)));
        x.setBid(0, 7, 9);
        x.revoke(1, 6);
        Check.equal("another bid, another award", "12 10 0 9", Check.row(x.points(0), x.points(1), x.points(2),
                x.points(3)));
    }

    // ---- promises 32 and 33: bestSet and bestPoints

    private static ShiftMarket bidding() {
        ShiftMarket x = new ShiftMarket();
        x.addWorker(0, 0, 168, 28, 15);
        x.addWorker(0, 12, 168, 28, 15);
        x.addWorker(0, 0, 15, 28, 15);
        x.addWorker(0, 0, 168, 1, 15);
        x.addWorker(0, 0, 168, 28, 2);
        x.addShift(1, 0, 8, 0, 1);
        x.addShift(1, 4, 8, 0, 1);
        x.addShift(1, 16, 8, 0, 1);
        x.addShift(2, 16, 7, 1, 1);
        for (int worker = 0; worker < 5; worker++) {
            x.setBid(worker, 0, 5);
            x.setBid(worker, 1, 4);
            x.setBid(worker, 2, 3);
            x.setBid(worker, 3, 2);
        }
        return x;
    }

    static void promise32BestSetOfThisWorker() {
        Edges.says("Returns the best set for a worker.");
        Edges.says("worker: the number of the worker");
        Edges.says("Returns the set of shifts, bit s for shift s.");
        ShiftMarket x = bidding();
        Check.equal("each worker", "13 9 9 5 8", Check.row(x.bestSet(0), x.bestSet(1), x.bestSet(2), x.bestSet(3),
                x.bestSet(4)));
        x.setBid(0, 1, 6);
        x.setBid(2, 3, 0);
        Check.equal("other bids", "14 9 1 5 8", Check.row(x.bestSet(0), x.bestSet(1), x.bestSet(2), x.bestSet(3),
                x.bestSet(4)));
    }

    static void promise33BestPointsOfThisWorker() {
        Edges.says("worker: the number of the worker");
        Edges.says("Returns the sum.");
        ShiftMarket x = bidding();
        Check.equal("each worker", "10 7 7 8 2", Check.row(x.bestPoints(0), x.bestPoints(1), x.bestPoints(2),
                x.bestPoints(3), x.bestPoints(4)));
        x.setBid(0, 1, 6);
        x.setBid(2, 3, 0);
        Check.equal("other bids", "11 7 5 8 2", Check.row(x.bestPoints(0), x.bestPoints(1), x.bestPoints(2),
                x.bestPoints(3), x.bestPoints(4)));
    }
}
