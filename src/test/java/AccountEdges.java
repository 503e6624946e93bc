/** The edges of promises 34 to 39: open shifts, the list of awards, what is legal, and the shares. */
final class AccountEdges {
    private AccountEdges() {
    }

    /** All awards that there can be, 48. */
    private static ShiftMarket allAwarded() {
        ShiftMarket x = Check.full();
        for (int index = 0; index < 48; index++) {
            x.award((index / 3 + index) % 10, 15 - index / 3);
        }
        return x;
    }

    // ---- promises 34 to 36: openShifts, awardCount and awardAt

    static void promise34OpenShiftsFromNoneToAll() {
        Edges.says("Returns the set of shifts, bit s for shift s.");
        Check.equal("no shifts", "0 0", Check.row(new ShiftMarket().openShifts(), Edges.workersAlone().openShifts()));
        Check.equal("all", "65535 15", Check.row(Check.full().openShifts(), Edges.shiftsAlone().openShifts()));
        Check.equal("none", 0, allAwarded().openShifts());
        ShiftMarket x = allAwarded();
        x.revoke(x.awardAt(0, 0), 15);
        Check.equal("the last one", 32768, x.openShifts());
        x.revoke(x.awardAt(46, 0), 0);
        Check.equal("the first one too", 32769, x.openShifts());
    }

    static void promise34OpenShiftsUpToTheNeed() {
        Edges.says("Returns the shifts whose coverage is less than their need.");
        for (int need = 1; need <= 3; need++) {
            ShiftMarket x = Edges.workersAlone();
            x.addShift(0, 0, 1, 0, need);
            for (int worker = 0; worker < need; worker++) {
                Check.equal("one is missing at least", 1, x.openShifts());
                x.award(worker, 0);
            }
            Check.equal("none is missing", 0, x.openShifts());
        }
    }

    static void promise35AwardCountFrom0To48() {
        Edges.says("Returns the number of awards.");
        ShiftMarket x = Check.full();
        Check.equal("none", "0 0", Check.row(x.awardCount(), new ShiftMarket().awardCount()));
        x.award(9, 15);
        Check.equal("one", 1, x.awardCount());
        x.revoke(9, 15);
        Check.equal("none again", 0, x.awardCount());
        Check.equal("all", 48, allAwarded().awardCount());
    }

    static void promise36AwardAtTheEnds() {
        Edges.says("index: the index in the list, from 0");
        ShiftMarket x = allAwarded();
        Check.equal("the first and the last", "0 15 2 0", Check.row(x.awardAt(0, 0), x.awardAt(0, 1),
                x.awardAt(47, 0), x.awardAt(47, 1)));
    }

    static void promise36AwardAtNoSuchAward() {
        Edges.says("Throws IndexOutOfBoundsException if there is no such award");
        Edges.refusesOutside("index of three", 0, 2, Check.INDEX, Check::busy, (y, wrong) -> y.awardAt(wrong, 0));
        Edges.refusesOutside("index of 48", 0, 47, Check.INDEX, AccountEdges::allAwarded,
                (y, wrong) -> y.awardAt(wrong, 1));
        Check.refuses("index 0 of none", Check.INDEX, Check::full, y -> y.awardAt(0, 0));
        ShiftMarket x = Check.busy();
        x.revoke(1, 1);
        Check.equal("behind the last one that is left", "IndexOutOfBoundsException",
                Check.thrownBy(x, y -> y.awardAt(2, 0)));
    }

    static void promise36AwardAtPart() {
        Edges.says("part: 0 for the worker, 1 for the shift");
        ShiftMarket x = Check.crowded();
        Check.equal("the parts", "9 15", Check.row(x.awardAt(0, 0), x.awardAt(0, 1)));
    }

    static void promise36AwardAtNoSuchPart() {
        Edges.says("Throws IllegalArgumentException if the part is out of range");
        Edges.refusesOutside("part", 0, 1, Check.ARGUMENT, Check::busy, (y, wrong) -> y.awardAt(0, wrong));
        Edges.refusesOutside("part", 0, 1, Check.ARGUMENT, AccountEdges::allAwarded,
                (y, wrong) -> y.awardAt(47, wrong));
    }

    static void promise36AwardAtOrderOfExceptions() {
        Edges.says(Edges.ORDER);
        Check.refuses("no award, no part", Check.INDEX, Check::busy, y -> y.awardAt(3, 2));
        Check.refuses("no award below, no part", Check.INDEX, Check::busy, y -> y.awardAt(-1, -1));
    }

    // ---- promise 37: isLegal

    static void promise37IsLegalWithoutAwards() {
        Edges.says("Returns whether no worker holds a shift against which there would be one of the obstacles 2 and 4"
                + " to 7");
        Check.equal("an empty market", true, new ShiftMarket().isLegal());
        Check.equal("no shifts", true, Edges.workersAlone().isLegal());
        Check.equal("no workers", true, Edges.shiftsAlone().isLegal());
        Check.equal("a worker without skills", true, withLimits(0, 0, 1, 1).isLegal());
    }

    private static ShiftMarket withLimits(int skills, int rest, int hours, int days) {
        ShiftMarket x = new ShiftMarket();
        x.addWorker(0, rest, hours, days, skills);
        x.addShift(0, 0, 8, 0, 1);
        x.addShift(0, 16, 8, 0, 1);
        x.addShift(1, 8, 8, 0, 1);
        return x;
    }

    static void promise37IsLegalAtTheLimits() {
        Edges.says("and no coverage is above the need or below the guarantee.");
        ShiftMarket x = withLimits(1, 8, 24, 2);
        x.award(0, 0);
        x.award(0, 1);
        x.award(0, 2);
        Check.equal("as little rest, as many hours and days as may be", "7 24 2 8 true", Check.row(x.held(0),
                x.hours(0, 0), x.daysInRow(0), x.shortestRest(0)) + " " + x.isLegal());
        x.setGuarantee(0, 1);
        Check.equal("as much coverage as need and guarantee", true, x.isLegal());
        ShiftMarket none = withLimits(1, 0, 168, 28);
        none.award(0, 0);
        none.award(0, 1);
        none.award(0, 2);
        Check.equal("far from the limits", true, none.isLegal());
        Check.equal("all awards that there can be", true, allAwarded().isLegal());
    }

    static void promise37IsLegalAfterWhatWasRefused() {
        Edges.says("Returns whether no worker holds a shift against which there would be one of the obstacles");
        ShiftMarket x = withLimits(1, 9, 16, 1);
        x.award(0, 0);
        Check.thrownBy(x, y -> y.award(0, 1));
        Check.thrownBy(x, y -> y.award(0, 2));
        Check.thrownBy(x, y -> y.setGuarantee(1, 1));
        Check.equal("after it", "1 true", x.held(0) + " " + x.isLegal());
    }

    // ---- promises 38 and 39: averageHours and coveredShare

    static void promise38AverageHoursWithoutWorkers() {
        Edges.says("Throws ArithmeticException if there are no workers");
        Check.refuses("an empty market", Check.ARITHMETIC, ShiftMarket::new, ShiftMarket::averageHours);
        Check.refuses("shifts alone", Check.ARITHMETIC, Edges::shiftsAlone, ShiftMarket::averageHours);
        ShiftMarket x = Edges.workersAlone();
        x.undo();
        x.undo();
        Check.equal("one worker", 0.0, x.averageHours());
        x.undo();
        Check.equal("none after undo", "ArithmeticException", Check.thrownBy(x, ShiftMarket::averageHours));
    }

    static void promise38AverageHoursOfAllWorkers() {
        Edges.says("Returns the sum of the hours of all workers in all weeks, divided by the number of workers, both"
                + " converted to double.");
        Check.equal("no awards", 0.0, Check.full().averageHours());
        Check.equal("no shifts", 0.0, Edges.workersAlone().averageHours());
        Check.equal("three awards of 8 hours, three workers", 8.0, Check.busy().averageHours());
        Check.equal("an hour of ten workers", 0.1, Check.crowded().averageHours());
        Check.equal("all awards", 4.8, allAwarded().averageHours());
        ShiftMarket x = new ShiftMarket();
        x.addWorker(0, 0, 168, 28, 1);
        x.addWorker(0, 0, 168, 28, 1);
        x.addWorker(0, 0, 168, 28, 1);
        x.addShift(0, 0, 4, 0, 1);
        x.addShift(27, 0, 6, 0, 1);
        x.award(0, 0);
        x.award(2, 1);
        Check.equal("a third more, in the first and the last week", 10.0 / 3.0, x.averageHours());
    }

    static void promise39CoveredShareWithoutShifts() {
        Edges.says("Throws ArithmeticException if there are no shifts");
        Check.refuses("an empty market", Check.ARITHMETIC, ShiftMarket::new, ShiftMarket::coveredShare);
        Check.refuses("workers alone", Check.ARITHMETIC, Edges::workersAlone, ShiftMarket::coveredShare);
        ShiftMarket x = new ShiftMarket();
        x.addShift(0, 0, 1, 0, 1);
        Check.equal("one shift", 0.0f, x.coveredShare());
        x.undo();
        Check.equal("none after undo", "ArithmeticException", Check.thrownBy(x, ShiftMarket::coveredShare));
    }

    static void promise39CoveredShareFrom0To1() {
        Edges.says("Returns the sum of all coverages, divided by the sum of all needs, both converted to float.");
        Check.equal("none of it", 0.0f, Check.full().coveredShare());
        Check.equal("one of 48", 1.0f / 48.0f, Check.crowded().coveredShare());
        Check.equal("three of eight", 0.375f, Check.busy().coveredShare());
        Check.equal("all of it", 1.0f, allAwarded().coveredShare());
        ShiftMarket x = allAwarded();
        x.revoke(x.awardAt(47, 0), 0);
        Check.equal("all but one", 47.0f / 48.0f, x.coveredShare());
    }
}
