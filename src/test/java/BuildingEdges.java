/** The edges of promises 1 to 4 and 9 to 14: a new object, workers, shifts, bids, and the order. */
final class BuildingEdges {
    private static final int[] LEAST_WORKER = {0, 0, 1, 1, 0};
    private static final int[] MOST_WORKER = {99, 24, 168, 28, 15};
    private static final int[] SOME_WORKER = {50, 12, 40, 5, 6};
    private static final int[] LEAST_SHIFT = {0, 0, 1, 0, 1};
    private static final int[] MOST_SHIFT = {27, 23, 12, 3, 3};
    private static final int[] SOME_SHIFT = {13, 12, 6, 2, 2};

    private BuildingEdges() {
    }

    private static int enterWorker(ShiftMarket x, int[] a) {
        return x.addWorker(a[0], a[1], a[2], a[3], a[4]);
    }

    private static int enterShift(ShiftMarket x, int[] a) {
        return x.addShift(a[0], a[1], a[2], a[3], a[4]);
    }

    private static int[] with(int[] numbers, int part, int number) {
        int[] other = numbers.clone();
        other[part] = number;
        return other;
    }

    private static String workerOf(ShiftMarket x, int worker) {
        return Check.row(x.worker(worker, 0), x.worker(worker, 1), x.worker(worker, 2), x.worker(worker, 3),
                x.worker(worker, 4));
    }

    private static String shiftOf(ShiftMarket x, int shift) {
        return Check.row(x.shift(shift, 0), x.shift(shift, 1), x.shift(shift, 2), x.shift(shift, 3),
                x.shift(shift, 4));
    }

    // ---- promise 1: a new object

    static void promise01ANewObjectIsEmpty() {
        Edges.says("Creates a market without workers and shifts.");
        ShiftMarket x = new ShiftMarket();
        Check.equal("counts", "0 0 0 0", Check.row(x.workerCount(), x.shiftCount(), x.awardCount(), x.openShifts()));
        Check.equal("rounds", "0 0", Check.row(x.round(), x.runAll()));
        Check.equal("legal", true, x.isLegal());
        Check.equal("the first worker and the first shift", "0 0", Check.row(enterWorker(x, SOME_WORKER),
                enterShift(x, SOME_SHIFT)));
    }

    static void promise01ANewObjectHasNeitherWorkerNorShiftNorAward0() {
        Edges.says("Creates a market without workers and shifts.");
        Check.Act[] acts = {y -> y.setBid(0, 0, 1), y -> y.worker(0, 0), y -> y.shift(0, 0), y -> y.bid(0, 0),
            y -> y.order(0), y -> y.obstacle(0, 0, 0), y -> y.award(0, 0), y -> y.revoke(0, 0),
            y -> y.setGuarantee(0, 0), y -> y.nextChoice(0), y -> y.exchange(0, 0, 1, 1),
            y -> y.rotate(0, 0, 1, 1, 2, 2), y -> y.partner(0, 0, 0), y -> y.held(0), y -> y.holders(0),
            y -> y.hours(0, -1), y -> y.daysInRow(0), y -> y.shortestRest(0), y -> y.points(0), y -> y.bestSet(0),
            y -> y.bestPoints(0), y -> y.awardAt(0, 0)};
        for (int index = 0; index < acts.length; index++) {
            Check.refuses("act " + index, Check.INDEX, ShiftMarket::new, acts[index]);
        }
    }

    static void promise01ANewObjectHasNoTextReasonOrChange() {
        Edges.says("There is a text of at most 80 characters, which is empty at first.");
        ShiftMarket x = new ShiftMarket();
        Check.equal("fault and failure", "-1 -1", Check.readingOf(x));
        Check.equal("the reason", "0 0 -1", Check.reasonOf(x));
        Check.equal("the first character", 1, x.appendCharacter('w'));
        Check.refusesItems("addItems", Check.ARGUMENT, ShiftMarket::new, "");
        Check.refuses("undo", Check.STATE, ShiftMarket::new, ShiftMarket::undo);
        Check.refuses("restore", Check.STATE, ShiftMarket::new, ShiftMarket::restore);
    }

    // ---- promise 2: addWorker

    private static void workerNumber(int part) {
        int least = LEAST_WORKER[part];
        int most = MOST_WORKER[part];
        ShiftMarket x = Check.busy();
        int low = enterWorker(x, with(SOME_WORKER, part, least));
        int high = enterWorker(x, with(SOME_WORKER, part, most));
        Check.equal("the least and the greatest", Check.row(3, 4, least, most),
                Check.row(low, high, x.worker(low, part), x.worker(high, part)));
        Edges.refusesOutside("the number", least, most, Check.ARGUMENT, Check::busy,
                (y, wrong) -> enterWorker(y, with(SOME_WORKER, part, wrong)));
    }

    static void promise02AddWorkerSeniority() {
        Edges.says("seniority: the seniority, 0 to 99");
        workerNumber(0);
    }

    static void promise02AddWorkerRest() {
        Edges.says("rest: the rest, 0 to 24");
        workerNumber(1);
    }

    static void promise02AddWorkerHours() {
        Edges.says("hours: the limit of hours, 1 to 168");
        workerNumber(2);
    }

    static void promise02AddWorkerDays() {
        Edges.says("days: the limit of days, 1 to 28");
        workerNumber(3);
    }

    static void promise02AddWorkerSkills() {
        Edges.says("skills: the set of skills, 0 to 15");
        workerNumber(4);
    }

    static void promise02AddWorkerAllNumbersAtAnEnd() {
        Edges.says("A worker has a seniority, 0 to 99, a rest from 0 to 24 hours, a limit from 1 to 168 hours for each"
                + " week, a limit from 1 to 28 days in a row, and a set of skills, bit k for skill k, where the skills"
                + " are 0 to 3.");
        ShiftMarket x = new ShiftMarket();
        enterWorker(x, LEAST_WORKER);
        enterWorker(x, MOST_WORKER);
        Check.equal("the least", Check.row(LEAST_WORKER), workerOf(x, 0));
        Check.equal("the greatest", Check.row(MOST_WORKER), workerOf(x, 1));
        for (int skill = 0; skill < 4; skill++) {
            x.addWorker(0, 0, 1, 1, 1 << skill);
            x.addShift(skill, 0, 1, skill, 1);
        }
        for (int skill = 0; skill < 4; skill++) {
            Check.equal("skill " + skill, "2 0 0 2", Check.row(x.obstacle(0, skill, 0), x.obstacle(1, skill, 0),
                    x.obstacle(2 + skill, skill, 0), x.obstacle(2 + (skill + 1) % 4, skill, 0)));
        }
    }

    static void promise02AddWorkerOutOfRange() {
        Edges.says("Throws IllegalArgumentException if a number is out of range");
        for (int part = 0; part < 5; part++) {
            int at = part;
            Check.refuses("one below, the others least", Check.ARGUMENT, Check::busy,
                    y -> enterWorker(y, with(LEAST_WORKER, at, LEAST_WORKER[at] - 1)));
            Check.refuses("one above, the others greatest", Check.ARGUMENT, Check::busy,
                    y -> enterWorker(y, with(MOST_WORKER, at, MOST_WORKER[at] + 1)));
        }
        Check.refuses("all below", Check.ARGUMENT, Check::busy, y -> y.addWorker(-1, -1, 0, 0, -1));
        Check.refuses("all above", Check.ARGUMENT, Check::busy, y -> y.addWorker(100, 25, 169, 29, 16));
    }

    static void promise02AddWorkerAtMostTen() {
        Edges.says("There are at most 10 workers, numbered from 0 in the order in which they were added.");
        ShiftMarket x = new ShiftMarket();
        for (int count = 0; count < 10; count++) {
            Check.equal("number", count, x.addWorker(count, 0, 1, 1, 0));
        }
        Check.equal("the eleventh", "IllegalStateException", Check.thrownBy(x, y -> enterWorker(y, SOME_WORKER)));
        Check.equal("the first, the last, and how many", "0 9 10",
                Check.row(x.worker(0, 0), x.worker(9, 0), x.workerCount()));
    }

    static void promise02AddWorkerFull() {
        Edges.says("Throws IllegalStateException if there are 10 workers");
        Check.refuses("least numbers", Check.STATE, Check::crowded, y -> enterWorker(y, LEAST_WORKER));
        Check.refuses("greatest numbers", Check.STATE, Check::crowded, y -> enterWorker(y, MOST_WORKER));
        ShiftMarket x = Edges.workersAlone();
        while (x.workerCount() < 10) {
            enterWorker(x, SOME_WORKER);
        }
        x.undo();
        Check.equal("the tenth after undo", 9, enterWorker(x, MOST_WORKER));
    }

    static void promise02AddWorkerOrderOfExceptions() {
        Edges.says(Edges.ORDER);
        for (int part = 0; part < 5; part++) {
            int at = part;
            Edges.refusesOutside("ten workers, and number " + at, LEAST_WORKER[at], MOST_WORKER[at], Check.ARGUMENT,
                    Check::crowded, (y, wrong) -> enterWorker(y, with(SOME_WORKER, at, wrong)));
        }
    }

    static void promise02AddWorkerWithoutBidsAndAwards() {
        Edges.says("Adds a worker without bids and awards.");
        ShiftMarket x = Check.busy();
        enterWorker(x, MOST_WORKER);
        x.setBid(3, 0, 9);
        x.award(3, 3);
        x.undo();
        x.undo();
        x.undo();
        Check.equal("a number given once more", 3, enterWorker(x, MOST_WORKER));
        Check.equal("bids and awards", "0 0 0 0", Check.row(x.worker(3, 5), x.bid(3, 0), x.held(3), x.points(3)));
    }

    // ---- promise 3: addShift

    private static void shiftNumber(int part) {
        int least = LEAST_SHIFT[part];
        int most = MOST_SHIFT[part];
        ShiftMarket x = Check.busy();
        int low = enterShift(x, with(SOME_SHIFT, part, least));
        int high = enterShift(x, with(SOME_SHIFT, part, most));
        Check.equal("the least and the greatest", Check.row(4, 5, least, most),
                Check.row(low, high, x.shift(low, part), x.shift(high, part)));
        Edges.refusesOutside("the number", least, most, Check.ARGUMENT, Check::busy,
                (y, wrong) -> enterShift(y, with(SOME_SHIFT, part, wrong)));
    }

    static void promise03AddShiftDay() {
        Edges.says("day: the day, 0 to 27");
        shiftNumber(0);
    }

    static void promise03AddShiftHour() {
        Edges.says("hour: the hour, 0 to 23");
        shiftNumber(1);
    }

    static void promise03AddShiftLength() {
        Edges.says("length: the length, 1 to 12");
        shiftNumber(2);
    }

    static void promise03AddShiftSkill() {
        Edges.says("skill: the skill, 0 to 3");
        shiftNumber(3);
    }

    static void promise03AddShiftNeed() {
        Edges.says("need: the need, 1 to 3");
        shiftNumber(4);
    }

    static void promise03AddShiftAllNumbersAtAnEnd() {
        Edges.says("A shift has a day from 0 to 27, an hour from 0 to 23, a length from 1 to 12 hours, a skill, and a"
                + " need from 1 to 3 workers.");
        ShiftMarket x = new ShiftMarket();
        enterShift(x, LEAST_SHIFT);
        enterShift(x, MOST_SHIFT);
        Check.equal("the least", Check.row(LEAST_SHIFT), shiftOf(x, 0));
        Check.equal("the greatest", Check.row(MOST_SHIFT), shiftOf(x, 1));
    }

    static void promise03AddShiftOutOfRange() {
        Edges.says("Throws IllegalArgumentException if a number is out of range");
        for (int part = 0; part < 5; part++) {
            int at = part;
            Check.refuses("one below, the others least", Check.ARGUMENT, Check::busy,
                    y -> enterShift(y, with(LEAST_SHIFT, at, LEAST_SHIFT[at] - 1)));
            Check.refuses("one above, the others greatest", Check.ARGUMENT, Check::busy,
                    y -> enterShift(y, with(MOST_SHIFT, at, MOST_SHIFT[at] + 1)));
        }
        Check.refuses("all below", Check.ARGUMENT, Check::busy, y -> y.addShift(-1, -1, 0, -1, 0));
        Check.refuses("all above", Check.ARGUMENT, Check::busy, y -> y.addShift(28, 24, 13, 4, 4));
    }

    static void promise03AddShiftAtMostSixteen() {
        Edges.says("There are at most 16 shifts, numbered from 0 in the order in which they were added.");
        ShiftMarket x = new ShiftMarket();
        for (int count = 0; count < 16; count++) {
            Check.equal("number", count, x.addShift(count, 0, 1, 0, 1));
        }
        Check.equal("the seventeenth", "IllegalStateException", Check.thrownBy(x, y -> enterShift(y, SOME_SHIFT)));
        Check.equal("the first, the last, and how many", "0 15 16",
                Check.row(x.shift(0, 0), x.shift(15, 0), x.shiftCount()));
    }

    static void promise03AddShiftFull() {
        Edges.says("Throws IllegalStateException if there are 16 shifts");
        Check.refuses("least numbers", Check.STATE, Check::crowded, y -> enterShift(y, LEAST_SHIFT));
        Check.refuses("greatest numbers", Check.STATE, Check::crowded, y -> enterShift(y, MOST_SHIFT));
        ShiftMarket x = Edges.shiftsAlone();
        while (x.shiftCount() < 16) {
            enterShift(x, SOME_SHIFT);
        }
        x.undo();
        Check.equal("the sixteenth after undo", 15, enterShift(x, MOST_SHIFT));
    }

    static void promise03AddShiftOrderOfExceptions() {
        Edges.says(Edges.ORDER);
        for (int part = 0; part < 5; part++) {
            int at = part;
            Edges.refusesOutside("sixteen shifts, and number " + at, LEAST_SHIFT[at], MOST_SHIFT[at], Check.ARGUMENT,
                    Check::crowded, (y, wrong) -> enterShift(y, with(SOME_SHIFT, at, wrong)));
        }
    }

    static void promise03AddShiftWithoutGuarantee() {
        Edges.says("A shift has a guarantee, 0 at first.");
        ShiftMarket x = Check.busy();
        enterShift(x, MOST_SHIFT);
        x.award(0, 4);
        x.setGuarantee(4, 1);
        x.undo();
        x.undo();
        x.undo();
        Check.equal("a number given once more", 4, enterShift(x, SOME_SHIFT));
        Check.equal("guarantee and coverage", "0 0 0", Check.row(x.shift(4, 5), x.shift(4, 6), x.holders(4)));
    }

    // ---- promise 4: setBid

    static void promise04SetBidPoints() {
        Edges.says("points: the points, 1 to 9, or 0 to take a bid back");
        for (int points = 0; points <= 9; points++) {
            ShiftMarket x = Check.busy();
            Check.equal("the previous points", 5, x.setBid(0, 3, points));
            Check.equal("the points, and how many bids", Check.row(points, points == 0 ? 0 : 1),
                    Check.row(x.bid(0, 3), x.worker(0, 5)));
        }
        Edges.refusesOutside("points", 0, 9, Check.ARGUMENT, Check::busy, (y, wrong) -> y.setBid(0, 3, wrong));
    }

    static void promise04SetBidPrevious() {
        Edges.says("Returns the previous points, 0 if there was no bid.");
        ShiftMarket x = Check.busy();
        Check.equal("from nothing to nothing", "0 0 0 1 9 9 0", Check.row(x.setBid(2, 0, 0), x.setBid(2, 0, 0),
                x.setBid(2, 0, 1), x.setBid(2, 0, 9), x.setBid(2, 0, 9), x.setBid(2, 0, 0), x.setBid(2, 0, 0)));
    }

    static void promise04SetBidNoSuchWorkerOrShift() {
        Edges.says("Throws IndexOutOfBoundsException if there is no such worker or shift");
        Edges.refusesNoWorker((y, wrong) -> y.setBid(wrong, 0, 1));
        Edges.refusesNoShift((y, wrong) -> y.setBid(0, wrong, 1));
        Edges.refusesNoWorker((y, wrong) -> y.setBid(wrong, 0, 0));
        Edges.refusesNoShift((y, wrong) -> y.setBid(0, wrong, 0));
        ShiftMarket x = Check.full();
        x.setBid(0, 15, 3);
        x.setBid(9, 0, 4);
        x.setBid(9, 15, 5);
        Check.equal("the last ones, alone", "0 3 0 4 5 0", Check.row(x.bid(0, 0), x.bid(0, 15), x.bid(1, 0),
                x.bid(9, 0), x.bid(9, 15), x.bid(8, 15)));
    }

    static void promise04SetBidPointsOutOfRange() {
        Edges.says("Throws IllegalArgumentException if the points are out of range");
        Edges.refusesOutside("points for the last shift", 0, 9, Check.ARGUMENT, Check::crowded,
                (y, wrong) -> y.setBid(9, 15, wrong));
    }

    static void promise04SetBidTheNinth() {
        Edges.says("Throws IllegalStateException if the worker has 8 bids, none of them for this shift, and the points"
                + " are not 0");
        Check.refuses("1 point", Check.STATE, Check::crowded, y -> y.setBid(4, 8, 1));
        Check.refuses("9 points for the last shift", Check.STATE, Check::crowded, y -> y.setBid(4, 15, 9));
        ShiftMarket x = Check.crowded();
        Check.equal("one of the eight", "1 8 9 8", Check.row(x.setBid(4, 0, 9), x.setBid(4, 7, 1), x.bid(4, 0),
                x.worker(4, 5)));
        Check.equal("0 points", "0 0 8", Check.row(x.setBid(4, 8, 0), x.setBid(4, 15, 0), x.worker(4, 5)));
    }

    static void promise04SetBidAtMostEight() {
        Edges.says("A worker can bid 1 to 9 points for a shift, and for at most 8 shifts at a time.");
        ShiftMarket x = Check.full();
        for (int worker = 0; worker < 10; worker++) {
            for (int count = 0; count < 8; count++) {
                x.setBid(worker, (worker + 2 * count) % 16, 1 + count);
            }
            int all = worker;
            Check.equal("eight bids of each", 8, x.worker(worker, 5));
            Check.equal("a ninth", "IllegalStateException", Check.thrownBy(x, y -> y.setBid(all, (all + 1) % 16, 1)));
        }
        x.setBid(9, 9, 0);
        Check.equal("the eighth once more", "0 8", Check.row(x.setBid(9, 10, 9), x.worker(9, 5)));
        Check.equal("and no ninth", "IllegalStateException", Check.thrownBy(x, y -> y.setBid(9, 9, 1)));
    }

    static void promise04SetBidOrderOfExceptions() {
        Edges.says(Edges.ORDER);
        Check.refuses("no worker, points", Check.INDEX, Check::crowded, y -> y.setBid(10, 0, 10));
        Check.refuses("no shift, points", Check.INDEX, Check::crowded, y -> y.setBid(0, 16, -1));
        Check.refuses("no shift, a ninth bid", Check.INDEX, Check::crowded, y -> y.setBid(4, 16, 1));
        Check.refuses("no shift, points, a ninth bid", Check.INDEX, Check::crowded, y -> y.setBid(4, -1, 10));
        Check.refuses("points above, a ninth bid", Check.ARGUMENT, Check::crowded, y -> y.setBid(4, 8, 10));
        Check.refuses("points below, a ninth bid", Check.ARGUMENT, Check::crowded, y -> y.setBid(4, 8, -1));
    }

    // ---- promises 9 to 12: counts, workers and shifts

    static void promise09WorkerCountFrom0To10() {
        Edges.says("Returns 0 to 10.");
        ShiftMarket x = new ShiftMarket();
        for (int count = 0; count < 10; count++) {
            Check.equal("before worker " + count, count, x.workerCount());
            enterWorker(x, SOME_WORKER);
        }
        Check.equal("at last", 10, x.workerCount());
        Check.thrownBy(x, y -> enterWorker(y, SOME_WORKER));
        Check.equal("after one that was refused", 10, x.workerCount());
        x.undo();
        Check.equal("after undo", 9, x.workerCount());
    }

    static void promise10WorkerPart() {
        Edges.says("part: 0 for the seniority, 1 for the rest, 2 for the limit of hours, 3 for the limit of days, 4 for"
                + " the skills, 5 for the number of bids");
        ShiftMarket x = Check.crowded();
        Check.equal("the first worker", "0 0 168 28 15 0", workerOf(x, 0) + " " + x.worker(0, 5));
        Check.equal("no bid, and eight", "0 8", Check.row(x.worker(9, 5), x.worker(4, 5)));
    }

    static void promise10WorkerNoSuchWorker() {
        Edges.says("Throws IndexOutOfBoundsException if there is no such worker");
        Edges.refusesNoWorker((y, wrong) -> y.worker(wrong, 0));
        Edges.refusesNoWorker((y, wrong) -> y.worker(wrong, 5));
    }

    static void promise10WorkerNoSuchPart() {
        Edges.says("Throws IllegalArgumentException if the part is out of range");
        Edges.refusesOutside("part", 0, 5, Check.ARGUMENT, Check::busy, (y, wrong) -> y.worker(0, wrong));
        Edges.refusesOutside("part", 0, 5, Check.ARGUMENT, Check::crowded, (y, wrong) -> y.worker(9, wrong));
    }

    static void promise10WorkerOrderOfExceptions() {
        Edges.says(Edges.ORDER);
        Check.refuses("no worker, no part", Check.INDEX, Check::busy, y -> y.worker(3, 6));
        Check.refuses("no worker below, no part", Check.INDEX, Check::busy, y -> y.worker(-1, -1));
    }

    static void promise11ShiftCountFrom0To16() {
        Edges.says("Returns 0 to 16.");
        ShiftMarket x = new ShiftMarket();
        for (int count = 0; count < 16; count++) {
            Check.equal("before shift " + count, count, x.shiftCount());
            enterShift(x, SOME_SHIFT);
        }
        Check.equal("at last", 16, x.shiftCount());
        Check.thrownBy(x, y -> enterShift(y, SOME_SHIFT));
        Check.equal("after one that was refused", 16, x.shiftCount());
        x.undo();
        Check.equal("after undo", 15, x.shiftCount());
    }

    static void promise12ShiftPart() {
        Edges.says("part: 0 for the day, 1 for the hour, 2 for the length, 3 for the skill, 4 for the need, 5 for the"
                + " guarantee, 6 for the coverage, 7 for the hour at which it ends, counted like the one at which it"
                + " begins");
        ShiftMarket x = Check.busy();
        Check.equal("a guarantee and a coverage", "0 8 8 0 2 2 2 16", shiftOf(x, 0) + " "
                + Check.row(x.shift(0, 5), x.shift(0, 6), x.shift(0, 7)));
        Check.equal("none", "3 8 8 3 2 0 0 88", shiftOf(x, 3) + " "
                + Check.row(x.shift(3, 5), x.shift(3, 6), x.shift(3, 7)));
    }

    static void promise12ShiftEnd() {
        Edges.says("It begins at the hour 24 times its day plus its hour, and ends its length later.");
        ShiftMarket x = new ShiftMarket();
        enterShift(x, LEAST_SHIFT);
        enterShift(x, MOST_SHIFT);
        x.addShift(0, 23, 1, 0, 1);
        x.addShift(1, 0, 1, 0, 1);
        x.addShift(0, 12, 12, 0, 1);
        x.addShift(0, 23, 2, 0, 1);
        Check.equal("ends, also on the next day", "1 683 24 25 24 25", Check.row(x.shift(0, 7), x.shift(1, 7),
                x.shift(2, 7), x.shift(3, 7), x.shift(4, 7), x.shift(5, 7)));
    }

    static void promise12ShiftCoverageFrom0To3() {
        Edges.says("The coverage of a shift is the number of workers who hold it.");
        ShiftMarket x = Check.full();
        for (int worker = 0; worker < 3; worker++) {
            Check.equal("coverage", Check.row(worker, 0), Check.row(x.shift(15, 6), x.shift(14, 6)));
            x.award(9 - worker, 15);
        }
        Check.equal("the greatest coverage, the greatest guarantee", "3 0 3", Check.row(x.shift(15, 6),
                x.setGuarantee(15, 3), x.shift(15, 5)));
    }

    static void promise12ShiftNoSuchShift() {
        Edges.says("Throws IndexOutOfBoundsException if there is no such shift");
        Edges.refusesNoShift((y, wrong) -> y.shift(wrong, 0));
        Edges.refusesNoShift((y, wrong) -> y.shift(wrong, 6));
        Edges.refusesNoShift((y, wrong) -> y.shift(wrong, 7));
    }

    static void promise12ShiftNoSuchPart() {
        Edges.says("Throws IllegalArgumentException if the part is out of range");
        Edges.refusesOutside("part", 0, 7, Check.ARGUMENT, Check::busy, (y, wrong) -> y.shift(0, wrong));
        Edges.refusesOutside("part", 0, 7, Check.ARGUMENT, Check::crowded, (y, wrong) -> y.shift(15, wrong));
        Check.refuses("part 8", Check.ARGUMENT, Check::busy, y -> y.shift(0, 8));
    }

    static void promise12ShiftOrderOfExceptions() {
        Edges.says(Edges.ORDER);
        Check.refuses("no shift, no part", Check.INDEX, Check::busy, y -> y.shift(4, 8));
        Check.refuses("no shift below, no part", Check.INDEX, Check::busy, y -> y.shift(-1, -1));
    }

    // ---- promises 13 and 14: bid and order

    static void promise13BidOrNone() {
        Edges.says("Returns the points, or 0 if there is no bid.");
        ShiftMarket x = Check.crowded();
        Check.equal("none beside the eight", "0 1 8 0 0", Check.row(x.bid(3, 7), x.bid(4, 0), x.bid(4, 7),
                x.bid(4, 8), x.bid(5, 0)));
        x.setBid(9, 15, 9);
        Check.equal("of the last worker for the last shift, and taken back", "9 9 0", Check.row(x.bid(9, 15),
                x.setBid(9, 15, 0), x.bid(9, 15)));
    }

    static void promise13BidNoSuchWorkerOrShift() {
        Edges.says("Throws IndexOutOfBoundsException if there is no such worker or shift");
        Edges.refusesNoWorker((y, wrong) -> y.bid(wrong, 0));
        Edges.refusesNoShift((y, wrong) -> y.bid(0, wrong));
        Check.refuses("neither", Check.INDEX, Check::busy, y -> y.bid(3, 4));
        // Behind the last shift of a worker stand the next worker's bids.
        Check.refuses("a shift too far", Check.INDEX, Check::crowded, y -> y.bid(3, 16));
        Check.refuses("a shift too near", Check.INDEX, Check::crowded, y -> y.bid(5, -16));
    }

    static void promise14OrderPlaces() {
        Edges.says("rank: the place, from 0");
        ShiftMarket x = new ShiftMarket();
        x.addWorker(0, 0, 1, 1, 0);
        Check.equal("one worker", 0, x.order(0));
        x.addWorker(99, 0, 1, 1, 0);
        x.addWorker(1, 0, 1, 1, 0);
        Check.equal("three workers", "1 2 0", Check.row(x.order(0), x.order(1), x.order(2)));
    }

    static void promise14OrderOfEqualSeniority() {
        Edges.says("Worker a comes before worker b if the seniority of a is greater, or if both are equal and the"
                + " number of a is lower.");
        ShiftMarket x = Check.full();
        for (int rank = 0; rank < 10; rank++) {
            Check.equal("all alike", rank, x.order(rank));
        }
        ShiftMarket other = new ShiftMarket();
        for (int seniority : new int[] {98, 99, 98, 99, 0, 0, 1, 99, 97, 98}) {
            other.addWorker(seniority, 0, 1, 1, 0);
        }
        Check.equal("some alike", "1 3 7 0 2 9 8 6 4 5", Check.row(other.order(0), other.order(1), other.order(2),
                other.order(3), other.order(4), other.order(5), other.order(6), other.order(7), other.order(8),
                other.order(9)));
    }

    static void promise14OrderNoSuchPlace() {
        Edges.says("Throws IndexOutOfBoundsException if there is no such place");
        Edges.refusesNoWorker((y, wrong) -> y.order(wrong));
    }
}
