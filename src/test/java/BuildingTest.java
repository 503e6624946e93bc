/** Promises 1 to 4 and 9 to 14: a new object, workers, shifts, bids, and the order. */
public final class BuildingTest {
    private static final int[] LEAST_WORKER = {0, 0, 1, 1, 0};
    private static final int[] MOST_WORKER = {99, 24, 168, 28, 15};
    private static final int[] LEAST_SHIFT = {0, 0, 1, 0, 1};
    private static final int[] MOST_SHIFT = {27, 23, 12, 3, 3};

    public static void main(String[] args) {
        newObject();
        addWorker();
        addShift();
        setBid();
        bidsAtTheLimit();
        parts();
        order();
        Check.end("BuildingTest");
    }

    private static void newObject() {
        ShiftMarket x = new ShiftMarket();
        Check.equal("a new object's numbers", "0 0 0 0 0 0 -1 -1", Check.row(x.workerCount(), x.shiftCount(),
                x.awardCount(), x.openShifts(), x.round(), x.runAll(), x.faultPosition(), x.failedItem()));
        Check.equal("a new object's reason", "0 0 -1", Check.reasonOf(x));
        Check.equal("a new object is legal", true, x.isLegal());
        Check.refuses("a new object's worker", Check.INDEX, ShiftMarket::new, y -> y.worker(0, 0));
        Check.refuses("a new object's shift", Check.INDEX, ShiftMarket::new, y -> y.shift(0, 0));
        Check.refuses("a new object's undo", Check.STATE, ShiftMarket::new, ShiftMarket::undo);
        Check.refuses("a new object's restore", Check.STATE, ShiftMarket::new, ShiftMarket::restore);
        ShiftMarket other = Check.free();
        Check.equal("two objects have nothing in common", "0 3", Check.row(new ShiftMarket().workerCount(),
                other.workerCount()));
    }

    private static int enterWorker(ShiftMarket x, int[] a) {
        return x.addWorker(a[0], a[1], a[2], a[3], a[4]);
    }

    private static int enterShift(ShiftMarket x, int[] a) {
        return x.addShift(a[0], a[1], a[2], a[3], a[4]);
    }

    private static int[] with(int[] numbers, int index, int number) {
        int[] other = numbers.clone();
        other[index] = number;
        return other;
    }

    private static void addWorker() {
        ShiftMarket x = new ShiftMarket();
        Check.equal("workers' numbers", "0 1", Check.row(enterWorker(x, LEAST_WORKER), enterWorker(x, MOST_WORKER)));
        Check.equal("a worker has neither bids nor awards", "0 0 0 0",
                Check.row(x.worker(0, 5), x.held(0), x.worker(1, 5), x.held(1)));
        for (int part = 0; part < 5; part++) {
            int[] below = with(LEAST_WORKER, part, LEAST_WORKER[part] - 1);
            int[] above = with(MOST_WORKER, part, MOST_WORKER[part] + 1);
            int[] farBelow = with(LEAST_WORKER, part, Integer.MIN_VALUE);
            int[] farAbove = with(MOST_WORKER, part, Integer.MAX_VALUE);
            String what = "addWorker with a wrong number at " + part;
            Check.refuses(what + ", low", Check.ARGUMENT, Check::free, y -> enterWorker(y, below));
            Check.refuses(what + ", high", Check.ARGUMENT, Check::free, y -> enterWorker(y, above));
            Check.refuses(what + ", lowest", Check.ARGUMENT, Check::free, y -> enterWorker(y, farBelow));
            Check.refuses(what + ", highest", Check.ARGUMENT, Check::free, y -> enterWorker(y, farAbove));
            Check.refuses(what + " at a full market", Check.ARGUMENT, Check::full, y -> enterWorker(y, below));
        }
        Check.equal("a full market", 10, Check.full().workerCount());
        Check.refuses("addWorker, the eleventh", Check.STATE, Check::full, y -> enterWorker(y, LEAST_WORKER));
        ShiftMarket again = Check.free();
        again.addWorker(0, 0, 168, 28, 15);
        again.setBid(3, 1, 7);
        again.award(3, 1);
        again.undo();
        again.undo();
        again.undo();
        Check.equal("a number that is given once more", 3, again.addWorker(1, 2, 3, 4, 5));
        Check.equal("the new worker has nothing of the one before", "1 2 3 4 5 0 0 0", Check.row(again.worker(3, 0),
                again.worker(3, 1), again.worker(3, 2), again.worker(3, 3), again.worker(3, 4), again.worker(3, 5),
                again.bid(3, 1), again.held(3)));
    }

    private static void addShift() {
        ShiftMarket x = new ShiftMarket();
        Check.equal("shifts' numbers", "0 1", Check.row(enterShift(x, LEAST_SHIFT), enterShift(x, MOST_SHIFT)));
        Check.equal("a shift has neither guarantee nor coverage", "0 0 0 0",
                Check.row(x.shift(0, 5), x.shift(0, 6), x.shift(1, 5), x.shift(1, 6)));
        for (int part = 0; part < 5; part++) {
            int[] below = with(LEAST_SHIFT, part, LEAST_SHIFT[part] - 1);
            int[] above = with(MOST_SHIFT, part, MOST_SHIFT[part] + 1);
            int[] farBelow = with(LEAST_SHIFT, part, Integer.MIN_VALUE);
            int[] farAbove = with(MOST_SHIFT, part, Integer.MAX_VALUE);
            String what = "addShift with a wrong number at " + part;
            Check.refuses(what + ", low", Check.ARGUMENT, Check::free, y -> enterShift(y, below));
            Check.refuses(what + ", high", Check.ARGUMENT, Check::free, y -> enterShift(y, above));
            Check.refuses(what + ", lowest", Check.ARGUMENT, Check::free, y -> enterShift(y, farBelow));
            Check.refuses(what + ", highest", Check.ARGUMENT, Check::free, y -> enterShift(y, farAbove));
            Check.refuses(what + " at a full market", Check.ARGUMENT, Check::full, y -> enterShift(y, above));
        }
        Check.equal("a full market", 16, Check.full().shiftCount());
        Check.refuses("addShift, the seventeenth", Check.STATE, Check::full, y -> enterShift(y, LEAST_SHIFT));
    }

    private static void setBid() {
        ShiftMarket x = Check.free();
        Check.equal("previous points", "0 9 1 0 0 0", Check.row(x.setBid(1, 2, 9), x.setBid(1, 2, 1),
                x.setBid(1, 2, 0), x.setBid(1, 2, 0), x.setBid(2, 1, 4), x.setBid(1, 2, 5)));
        Check.equal("a bid is one worker's for one shift", "0 5 0 4 0 0", Check.row(x.bid(1, 1), x.bid(1, 2),
                x.bid(2, 2), x.bid(2, 1), x.bid(0, 1), x.bid(0, 2)));
        for (int wrong : new int[] {-1, 3, Integer.MIN_VALUE, Integer.MAX_VALUE}) {
            Check.refuses("setBid of worker " + wrong, Check.INDEX, Check::free, y -> y.setBid(wrong, 0, 1));
            Check.refuses("bid of worker " + wrong, Check.INDEX, Check::free, y -> y.bid(wrong, 0));
        }
        for (int wrong : new int[] {-1, 4, Integer.MIN_VALUE, Integer.MAX_VALUE}) {
            Check.refuses("setBid for shift " + wrong, Check.INDEX, Check::free, y -> y.setBid(0, wrong, 1));
            Check.refuses("bid for shift " + wrong, Check.INDEX, Check::free, y -> y.bid(0, wrong));
        }
        for (int wrong : new int[] {-1, 10, Integer.MIN_VALUE, Integer.MAX_VALUE}) {
            Check.refuses("setBid with points " + wrong, Check.ARGUMENT, Check::free, y -> y.setBid(0, 0, wrong));
            Check.refuses("setBid with points " + wrong + " and 8 bids", Check.ARGUMENT, BuildingTest::eightBids,
                    y -> y.setBid(4, 15, wrong));
        }
        Check.refuses("setBid with nothing right", Check.INDEX, Check::free, y -> y.setBid(3, 0, 10));
    }

    private static ShiftMarket eightBids() {
        ShiftMarket x = Check.full();
        for (int shift = 0; shift < 8; shift++) {
            x.setBid(4, shift, 1 + shift);
        }
        return x;
    }

    private static void bidsAtTheLimit() {
        Check.refuses("setBid, the ninth", Check.STATE, BuildingTest::eightBids, y -> y.setBid(4, 8, 1));
        ShiftMarket x = eightBids();
        Check.equal("a bid for the same shift, and none for another", "8 3 0 8", Check.row(x.worker(4, 5),
                x.setBid(4, 2, 9), x.setBid(4, 12, 0), x.worker(4, 5)));
        Check.equal("another worker's bid", "0 1", Check.row(x.setBid(5, 8, 2), x.worker(5, 5)));
        Check.equal("one bid for another", "1 7 0 8 6", Check.row(x.setBid(4, 0, 0), x.worker(4, 5),
                x.setBid(4, 15, 6), x.worker(4, 5), x.bid(4, 15)));
    }

    private static void parts() {
        ShiftMarket x = new ShiftMarket();
        x.addWorker(50, 11, 40, 5, 9);
        x.addWorker(51, 12, 41, 6, 10);
        x.addShift(13, 22, 7, 3, 2);
        x.addShift(27, 23, 12, 0, 3);
        x.setBid(1, 0, 3);
        Check.equal("counts", "2 2", Check.row(x.workerCount(), x.shiftCount()));
        Check.equal("worker 0", "50 11 40 5 9 0", Check.row(x.worker(0, 0), x.worker(0, 1), x.worker(0, 2),
                x.worker(0, 3), x.worker(0, 4), x.worker(0, 5)));
        Check.equal("worker 1", "51 12 41 6 10 1", Check.row(x.worker(1, 0), x.worker(1, 1), x.worker(1, 2),
                x.worker(1, 3), x.worker(1, 4), x.worker(1, 5)));
        x.award(0, 0);
        x.setGuarantee(0, 1);
        Check.equal("shift 0", "13 22 7 3 2 1 1 341", Check.row(x.shift(0, 0), x.shift(0, 1), x.shift(0, 2),
                x.shift(0, 3), x.shift(0, 4), x.shift(0, 5), x.shift(0, 6), x.shift(0, 7)));
        Check.equal("shift 1", "27 23 12 0 3 0 0 683", Check.row(x.shift(1, 0), x.shift(1, 1), x.shift(1, 2),
                x.shift(1, 3), x.shift(1, 4), x.shift(1, 5), x.shift(1, 6), x.shift(1, 7)));
        for (int wrong : new int[] {-1, 6, Integer.MIN_VALUE, Integer.MAX_VALUE}) {
            Check.refuses("worker's part " + wrong, Check.ARGUMENT, Check::free, y -> y.worker(0, wrong));
        }
        for (int wrong : new int[] {-1, 8, Integer.MIN_VALUE, Integer.MAX_VALUE}) {
            Check.refuses("shift's part " + wrong, Check.ARGUMENT, Check::free, y -> y.shift(0, wrong));
        }
        for (int wrong : new int[] {-1, 4, Integer.MIN_VALUE, Integer.MAX_VALUE}) {
            Check.refuses("shift " + wrong, Check.INDEX, Check::free, y -> y.shift(wrong, 8));
        }
        for (int wrong : new int[] {-1, 3, Integer.MIN_VALUE, Integer.MAX_VALUE}) {
            Check.refuses("worker " + wrong, Check.INDEX, Check::free, y -> y.worker(wrong, 6));
        }
    }

    private static void order() {
        ShiftMarket x = new ShiftMarket();
        for (int seniority : new int[] {5, 9, 5, 0, 9, 99}) {
            x.addWorker(seniority, 0, 1, 1, 0);
        }
        Check.equal("the order", "5 1 4 0 2 3", Check.row(x.order(0), x.order(1), x.order(2), x.order(3),
                x.order(4), x.order(5)));
        x.addWorker(9, 0, 1, 1, 0);
        Check.equal("the order with one more", "5 1 4 6 0 2 3", Check.row(x.order(0), x.order(1), x.order(2),
                x.order(3), x.order(4), x.order(5), x.order(6)));
        for (int wrong : new int[] {-1, 3, 10, Integer.MIN_VALUE, Integer.MAX_VALUE}) {
            Check.refuses("order " + wrong, Check.INDEX, Check::free, y -> y.order(wrong));
        }
        Check.refuses("order without workers", Check.INDEX, ShiftMarket::new, y -> y.order(0));
    }
}
