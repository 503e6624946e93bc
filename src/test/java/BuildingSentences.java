/** What promises 1 to 4 and 9 to 14 say of ordinary calls, a test for each sentence. */
final class BuildingSentences {
    private BuildingSentences() {
    }

    /** Three workers and four shifts, of which no two have the same number in the same part. */
    private static ShiftMarket different() {
        ShiftMarket x = new ShiftMarket();
        for (int worker = 0; worker < 3; worker++) {
            x.addWorker(30 + worker, 2 + worker, 43 + worker, 5 + worker, 9 + worker);
        }
        for (int shift = 0; shift < 4; shift++) {
            x.addShift(11 + shift, 20 - shift, 6 + shift, shift, 1 + shift % 3);
        }
        return x;
    }

    private static String workerOf(ShiftMarket x, int worker) {
        return Check.row(x.worker(worker, 0), x.worker(worker, 1), x.worker(worker, 2), x.worker(worker, 3),
                x.worker(worker, 4), x.worker(worker, 5));
    }

    private static String shiftOf(ShiftMarket x, int shift) {
        return Check.row(x.shift(shift, 0), x.shift(shift, 1), x.shift(shift, 2), x.shift(shift, 3),
                x.shift(shift, 4), x.shift(shift, 5), x.shift(shift, 6), x.shift(shift, 7));
    }

    private static String bidsOf(ShiftMarket x) {
        StringBuilder text = new StringBuilder();
        for (int worker = 0; worker < x.workerCount(); worker++) {
            for (int shift = 0; shift < x.shiftCount(); shift++) {
                text.append(x.bid(worker, shift));
            }
            text.append(" ");
        }
        return text.toString().trim();
    }

    // ---- promises 2 and 3: addWorker and addShift

    static void promise02AddWorkerReturnsItsNumber() {
        Edges.says("Returns the number of the worker.");
        ShiftMarket x = new ShiftMarket();
        for (int count = 0; count < 10; count++) {
            int number = x.addWorker(90 - count, 10 + count, 100 + count, 20 - count, 1 + count);
            Check.equal("the worker of that number", Check.row(count, 90 - count, 10 + count, 100 + count, 20 - count,
                    1 + count, 0), number + " " + workerOf(x, number));
        }
    }

    static void promise03AddShiftAddsIt() {
        Edges.says("Adds a shift.");
        ShiftMarket x = different();
        String before = Check.stateOf(x);
        x.addShift(5, 7, 9, 3, 2);
        Check.equal("one more, without coverage", "5 5 7 9 3 2 0 0 136 0", x.shiftCount() + " " + shiftOf(x, 4) + " "
                + x.holders(4));
        Check.equal("nobody bids for it", "00000 00000 00000", bidsOf(x));
        x.undo();
        Check.equal("the others stay", before, Check.stateOf(x));
    }

    static void promise03AddShiftReturnsItsNumber() {
        Edges.says("Returns the number of the shift.");
        ShiftMarket x = new ShiftMarket();
        for (int count = 0; count < 16; count++) {
            int number = x.addShift(20 - count, count, 1 + count % 12, count % 4, 1 + count % 3);
            Check.equal("the shift of that number", Check.row(count, 20 - count, count, 1 + count % 12, count % 4,
                    1 + count % 3, 0, 0, 24 * (20 - count) + count + 1 + count % 12), number + " "
                    + shiftOf(x, number));
        }
    }

    // ---- promise 4: setBid

    static void promise04SetBidOfThisWorkerForThisShift() {
        Edges.says("Sets a bid.");
        Edges.says("worker: the number of the worker");
        Edges.says("shift: the number of the shift");
        String[] due = {"7000 0000 0000", "0700 0000 0000", "0070 0000 0000", "0007 0000 0000", "0000 7000 0000",
            "0000 0700 0000", "0000 0070 0000", "0000 0007 0000", "0000 0000 7000", "0000 0000 0700",
            "0000 0000 0070", "0000 0000 0007"};
        for (int index = 0; index < due.length; index++) {
            ShiftMarket x = different();
            x.setBid(index / 4, index % 4, 7);
            Check.equal("worker " + index / 4 + ", shift " + index % 4, due[index], bidsOf(x));
        }
    }

    // ---- promises 9 to 13: counts, workers, shifts and bids

    static void promise09WorkerCountIsTheNumberOfWorkers() {
        Edges.says("Returns the number of workers.");
        ShiftMarket x = different();
        Check.equal("three workers, four shifts", "3 4", Check.row(x.workerCount(), x.shiftCount()));
        x.save();
        Check.append(x, "w1,1,1,1,1;s1,1,1,1,1;w2,2,2,2,2");
        x.addItems();
        Check.equal("two of a text", 5, x.workerCount());
        x.restore();
        Check.equal("restored", 3, x.workerCount());
        x.undo();
        Check.equal("the restore is taken back", 5, x.workerCount());
    }

    static void promise11ShiftCountIsTheNumberOfShifts() {
        Edges.says("Returns the number of shifts.");
        ShiftMarket x = different();
        x.save();
        Check.append(x, "s1,1,1,1,1;w1,1,1,1,1;s2,2,2,2,2");
        x.addItems();
        Check.equal("two of a text", "6 4", Check.row(x.shiftCount(), x.workerCount()));
        x.restore();
        Check.equal("restored", 4, x.shiftCount());
        x.undo();
        Check.equal("the restore is taken back", 6, x.shiftCount());
    }

    static void promise10WorkerReturnsTheNumberOfThisWorker() {
        Edges.says("Returns a number of a worker.");
        Edges.says("worker: the number of the worker");
        Edges.says("Returns the number.");
        ShiftMarket x = different();
        x.setBid(1, 0, 3);
        x.setBid(2, 0, 3);
        x.setBid(2, 3, 8);
        Check.equal("worker 0", "30 2 43 5 9 0", workerOf(x, 0));
        Check.equal("worker 1", "31 3 44 6 10 1", workerOf(x, 1));
        Check.equal("worker 2", "32 4 45 7 11 2", workerOf(x, 2));
        x.setBid(2, 0, 4);
        x.setBid(2, 3, 0);
        Check.equal("a bid less", "32 4 45 7 11 1", workerOf(x, 2));
    }

    static void promise12ShiftReturnsTheNumberOfThisShift() {
        Edges.says("Returns a number of a shift.");
        Edges.says("shift: the number of the shift");
        Edges.says("Returns the number.");
        ShiftMarket x = different();
        x.award(0, 0);
        x.award(1, 1);
        x.award(2, 1);
        x.setGuarantee(1, 1);
        Check.equal("shift 0", "11 20 6 0 1 0 1 290", shiftOf(x, 0));
        Check.equal("shift 1", "12 19 7 1 2 1 2 314", shiftOf(x, 1));
        Check.equal("shift 2", "13 18 8 2 3 0 0 338", shiftOf(x, 2));
        Check.equal("shift 3", "14 17 9 3 1 0 0 362", shiftOf(x, 3));
    }

    static void promise13BidOfThisWorkerForThisShift() {
        Edges.says("Returns a bid.");
        Edges.says("worker: the number of the worker");
        Edges.says("shift: the number of the shift");
        ShiftMarket x = different();
        for (int index = 0; index < 12; index++) {
            x.setBid(index / 4, index % 4, 1 + index % 9);
        }
        Check.equal("the bids", "1234 5678 9123", bidsOf(x));
        x.setBid(1, 2, 0);
        Check.equal("one taken back", "1234 5608 9123", bidsOf(x));
        x.award(1, 1);
        x.runAll();
        Check.equal("awards leave the bids", "1234 5608 9123", bidsOf(x));
    }

    // ---- promise 14: order

    static void promise14OrderReturnsTheWorkerAtThePlace() {
        Edges.says("Returns the worker at a place of the order.");
        Edges.says("Returns the worker.");
        int[][] seniorities = {{1, 2, 3}, {1, 3, 2}, {2, 1, 3}, {2, 3, 1}, {3, 1, 2}, {3, 2, 1}};
        String[] due = {"2 1 0", "1 2 0", "2 0 1", "1 0 2", "0 2 1", "0 1 2"};
        for (int index = 0; index < due.length; index++) {
            ShiftMarket x = new ShiftMarket();
            for (int seniority : seniorities[index]) {
                x.addWorker(seniority, 0, 1, 1, 0);
            }
            Check.equal("order " + index, due[index], Check.row(x.order(0), x.order(1), x.order(2)));
        }
        ShiftMarket x = different();
        x.addWorker(31, 0, 1, 1, 0);
        Check.equal("a worker more", "2 1 3 0", Check.row(x.order(0), x.order(1), x.order(2), x.order(3)));
        x.undo();
        Check.equal("taken back", "2 1 0", Check.row(x.order(0), x.order(1), x.order(2)));
    }
}
