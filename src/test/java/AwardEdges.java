/** The edges of promises 16 to 22: awards, revocations, guarantees, the reason, and rounds. */
final class AwardEdges {
    private AwardEdges() {
    }

    /** Worker 9 holds shift 15, which is guaranteed; so do the workers 7 and 8, and they need no more. */
    private static ShiftMarket covered() {
        ShiftMarket x = Check.crowded();
        x.award(8, 15);
        x.award(7, 15);
        x.setGuarantee(15, 3);
        return x;
    }

    /** As the last of ten workers, one with these limits and skill 0 alone. */
    private static ShiftMarket limited(int rest, int hours, int days) {
        ShiftMarket x = new ShiftMarket();
        for (int worker = 0; worker < 9; worker++) {
            x.addWorker(0, 0, 168, 28, 15);
        }
        x.addWorker(0, rest, hours, days, 1);
        return x;
    }

    private static ShiftMarket lastHolds(int rest, int hours, int days, int[] held, int[] wanted) {
        ShiftMarket x = limited(rest, hours, days);
        x.addShift(held[0], held[1], held[2], 0, 1);
        x.addShift(wanted[0], wanted[1], wanted[2], 0, 1);
        x.award(9, 0);
        return x;
    }

    // ---- promise 16: award

    static void promise16AwardCoverages() {
        Edges.says("Returns the new coverage of the shift.");
        ShiftMarket x = Check.full();
        Check.equal("of the last shift", "1 2 3", Check.row(x.award(9, 15), x.award(0, 15), x.award(5, 15)));
        Check.equal("of the first shift, with a bid", "0 1 7", Check.row(x.setBid(0, 0, 7), x.award(0, 0),
                x.points(0)));
    }

    static void promise16AwardAllThereCanBe() {
        Edges.says("The awards are listed in the order in which they were made.");
        ShiftMarket x = Check.full();
        for (int shift = 0; shift < 16; shift++) {
            for (int count = 0; count < 3; count++) {
                x.award((shift + count) % 10, 15 - shift);
            }
        }
        Check.equal("48", "48 0 15 1 15 7 0", Check.row(x.awardCount(), x.awardAt(0, 0), x.awardAt(0, 1),
                x.awardAt(1, 0), x.awardAt(1, 1), x.awardAt(47, 0), x.awardAt(47, 1)));
        Check.equal("no more", "UnsupportedOperationException", Check.thrownBy(x, y -> y.award(9, 0)));
        Check.equal("legal", true, x.isLegal());
    }

    static void promise16AwardNoSuchWorkerOrShift() {
        Edges.says("Throws IndexOutOfBoundsException if there is no such worker or shift");
        Edges.refusesNoWorker((y, wrong) -> y.award(wrong, 2));
        Edges.refusesNoShift((y, wrong) -> y.award(0, wrong));
        Check.refuses("neither", Check.INDEX, Check::busy, y -> y.award(3, 4));
    }

    static void promise16AwardWithEachObstacle() {
        Edges.says("Throws UnsupportedOperationException if there is an obstacle; this becomes the reason");
        Edges.refusesFor("held", "1 15 9", AwardEdges::covered, y -> y.award(9, 15));
        Edges.refusesFor("skill", "2 3 9", () -> {
            ShiftMarket x = limited(0, 168, 28);
            x.addShift(0, 0, 1, 3, 1);
            return x;
        }, y -> y.award(9, 0));
        Edges.refusesFor("coverage", "3 3 0", AwardEdges::covered, y -> y.award(0, 15));
        Edges.refusesFor("overlap", "4 0 9", () -> lastHolds(0, 168, 28, ObstacleTest.at(1, 0, 8),
                ObstacleTest.at(1, 7, 8)), y -> y.award(9, 1));
        Edges.refusesFor("rest", "5 0 9", () -> lastHolds(8, 168, 28, ObstacleTest.at(1, 0, 8),
                ObstacleTest.at(1, 15, 8)), y -> y.award(9, 1));
        Edges.refusesFor("hours", "6 3 9", () -> lastHolds(8, 15, 28, ObstacleTest.at(21, 0, 8),
                ObstacleTest.at(27, 16, 8)), y -> y.award(9, 1));
        Edges.refusesFor("days", "7 2 9", () -> lastHolds(8, 16, 1, ObstacleTest.at(26, 0, 8),
                ObstacleTest.at(27, 16, 8)), y -> y.award(9, 1));
        ShiftMarket x = lastHolds(8, 16, 2, ObstacleTest.at(26, 8, 8), ObstacleTest.at(27, 0, 8));
        Check.equal("just none of them", "1 0 0 -1", x.award(9, 1) + " " + Check.reasonOf(x));
    }

    static void promise16AwardOrderOfExceptions() {
        Edges.says(Edges.ORDER);
        Check.refuses("no worker, and covered", Check.INDEX, AwardEdges::covered, y -> y.award(10, 15));
        Check.refuses("no shift", Check.INDEX, AwardEdges::covered, y -> y.award(9, 16));
    }

    // ---- promise 17: revoke

    static void promise17RevokeCoverages() {
        Edges.says("Returns the new coverage of the shift.");
        ShiftMarket x = covered();
        x.setGuarantee(15, 0);
        Check.equal("down to nothing", "2 1 0 0", Check.row(x.revoke(8, 15), x.revoke(9, 15), x.revoke(7, 15),
                x.awardCount()));
        Check.equal("and up again", "1 9 15", Check.row(x.award(9, 15), x.awardAt(0, 0), x.awardAt(0, 1)));
    }

    static void promise17RevokeTheFirstAndTheLastOfTheList() {
        Edges.says("The awards are listed in the order in which they were made.");
        ShiftMarket x = Check.full();
        x.award(9, 15);
        x.award(0, 0);
        x.award(9, 0);
        x.award(0, 15);
        x.revoke(9, 15);
        Check.equal("without the first", "0:0 9:0 0:15", Check.awardsOf(x));
        x.revoke(0, 15);
        Check.equal("without the last", "0:0 9:0", Check.awardsOf(x));
        x.undo();
        x.undo();
        Check.equal("with both", "9:15 0:0 9:0 0:15", Check.awardsOf(x));
    }

    static void promise17RevokeOfAFullList() {
        Edges.says("Revokes an award.");
        ShiftMarket x = Check.full();
        for (int index = 0; index < 48; index++) {
            x.award(index % 3, index / 3);
        }
        Check.equal("the first of 48", "2 47 1 0", Check.row(x.revoke(0, 0), x.awardCount(), x.awardAt(0, 0),
                x.awardAt(0, 1)));
        Check.equal("the last is a place before", "2 15", Check.row(x.awardAt(46, 0), x.awardAt(46, 1)));
        Check.equal("the 48th once more", "3 48 9 0", Check.row(x.award(9, 0), x.awardCount(), x.awardAt(47, 0),
                x.awardAt(47, 1)));
        Check.equal("the last of 48", "2 47", Check.row(x.revoke(9, 0), x.awardCount()));
    }

    static void promise17RevokeNoSuchWorkerOrShift() {
        Edges.says("Throws IndexOutOfBoundsException if there is no such worker or shift");
        Edges.refusesNoWorker((y, wrong) -> y.revoke(wrong, 1));
        Edges.refusesNoShift((y, wrong) -> y.revoke(1, wrong));
    }

    static void promise17RevokeOfWhatIsNotHeld() {
        Edges.says("Throws NoSuchElementException if the worker does not hold the shift");
        Check.refuses("held by nobody", Check.ELEMENT, Check::busy, y -> y.revoke(0, 3));
        Check.refuses("held by another one", Check.ELEMENT, Check::busy, y -> y.revoke(0, 1));
        Check.refuses("with a bid alone", Check.ELEMENT, Check::crowded, y -> y.revoke(4, 7));
        ShiftMarket x = Check.busy();
        x.revoke(1, 1);
        Check.equal("revoked before", "NoSuchElementException", Check.thrownBy(x, y -> y.revoke(1, 1)));
    }

    static void promise17RevokeDownToTheGuarantee() {
        Edges.says("An award cannot be revoked if the coverage would be less than the guarantee.");
        for (int guarantee = 0; guarantee <= 3; guarantee++) {
            ShiftMarket x = covered();
            x.setGuarantee(15, guarantee);
            for (int coverage = 2; coverage >= guarantee; coverage--) {
                Check.equal("not less than " + guarantee, coverage, x.revoke(7 + coverage, 15));
            }
            int holder = 6 + guarantee;
            Check.equal("less than " + guarantee, guarantee == 0 ? "NoSuchElementException"
                    : "UnsupportedOperationException", Check.thrownBy(x, y -> y.revoke(holder, 15)));
            Check.equal("what is left", guarantee, x.shift(15, 6));
        }
    }

    static void promise17RevokeOfWhatIsGuaranteed() {
        Edges.says("Throws UnsupportedOperationException if the guarantee does not allow it; this becomes the reason");
        Edges.refusesFor("guarantee 2", "8 2 0", Check::busy, y -> y.revoke(0, 0));
        Edges.refusesFor("guarantee 3", "8 3 9", AwardEdges::covered, y -> y.revoke(9, 15));
        Edges.refusesFor("guarantee 1", "8 1 9", () -> {
            ShiftMarket x = Check.crowded();
            x.setGuarantee(15, 1);
            return x;
        }, y -> y.revoke(9, 15));
    }

    static void promise17RevokeOrderOfExceptions() {
        Edges.says(Edges.ORDER);
        Check.refuses("no worker, not held, guaranteed", Check.INDEX, AwardEdges::covered, y -> y.revoke(10, 15));
        Check.refuses("no shift, not held", Check.INDEX, AwardEdges::covered, y -> y.revoke(9, 16));
        Check.refuses("not held, guaranteed", Check.ELEMENT, AwardEdges::covered, y -> y.revoke(0, 15));
    }

    // ---- promise 18: setGuarantee

    static void promise18SetGuaranteeUpToTheNeed() {
        Edges.says("guarantee: the guarantee, 0 up to the need");
        ShiftMarket x = Edges.workersAlone();
        for (int need = 1; need <= 3; need++) {
            x.addShift(need, 0, 1, 0, need);
            for (int worker = 0; worker < need; worker++) {
                x.award(worker, need - 1);
            }
            Check.equal("from 0 to the need and back", Check.row(0, need, need, 0), Check.row(
                    x.setGuarantee(need - 1, need), x.shift(need - 1, 5), x.setGuarantee(need - 1, 0),
                    x.shift(need - 1, 5)));
        }
    }

    static void promise18SetGuaranteeOutOfRange() {
        Edges.says("Throws IllegalArgumentException if the guarantee is out of range");
        Edges.refusesOutside("of a need of 2, covered", 0, 2, Check.ARGUMENT, Check::busy,
                (y, wrong) -> y.setGuarantee(0, wrong));
        Edges.refusesOutside("of a need of 3, covered", 0, 3, Check.ARGUMENT, AwardEdges::covered,
                (y, wrong) -> y.setGuarantee(15, wrong));
        Edges.refusesOutside("of a need of 1", 0, 1, Check.ARGUMENT, Edges::shiftsAlone,
                (y, wrong) -> y.setGuarantee(3, wrong));
    }

    static void promise18SetGuaranteeNoSuchShift() {
        Edges.says("Throws IndexOutOfBoundsException if there is no such shift");
        Edges.refusesNoShift((y, wrong) -> y.setGuarantee(wrong, 0));
    }

    static void promise18SetGuaranteeUpToTheCoverage() {
        Edges.says("Throws IllegalStateException if the coverage is less");
        for (int coverage = 0; coverage < 3; coverage++) {
            int covering = coverage;
            Check.Recipe recipe = () -> {
                ShiftMarket x = Check.full();
                for (int worker = 0; worker < covering; worker++) {
                    x.award(worker, 15);
                }
                return x;
            };
            for (int guarantee = 0; guarantee <= coverage; guarantee++) {
                ShiftMarket x = recipe.make();
                Check.equal("not more than " + coverage, Check.row(0, guarantee), Check.row(
                        x.setGuarantee(15, guarantee), x.shift(15, 5)));
            }
            for (int guarantee = coverage + 1; guarantee <= 3; guarantee++) {
                int more = guarantee;
                Check.refuses("more than " + coverage, Check.STATE, recipe, y -> y.setGuarantee(15, more));
            }
        }
    }

    static void promise18SetGuaranteeOrderOfExceptions() {
        Edges.says(Edges.ORDER);
        Check.refuses("no shift, out of range", Check.INDEX, Check::crowded, y -> y.setGuarantee(16, 4));
        Check.refuses("no shift, out of range below", Check.INDEX, Check::crowded, y -> y.setGuarantee(-1, -1));
        Check.refuses("no shift, coverage", Check.INDEX, Check::crowded, y -> y.setGuarantee(16, 1));
        Check.refuses("out of range, coverage", Check.ARGUMENT, Check::crowded, y -> y.setGuarantee(14, 4));
    }

    // ---- promise 19: reason

    static void promise19ReasonBeforeAnyCall() {
        Edges.says("It is 0, 0 and -1 if that call was successful, or before such a call.");
        ShiftMarket x = Check.full();
        Check.equal("before such a call", "0 0 -1", Check.reasonOf(x));
        x.award(0, 15);
        Check.equal("after award", "0 0 -1", Check.reasonOf(x));
    }

    static void promise19ReasonAfterEachSuccess() {
        Edges.says("It is 0, 0 and -1 if that call was successful, or before such a call.");
        Check.Act[] acts = {y -> y.award(0, 5), y -> y.revoke(7, 15), y -> y.exchange(9, 15, 0, 0),
            y -> y.rotate(9, 15, 0, 0, 1, 1)};
        for (Check.Act act : acts) {
            ShiftMarket x = covered();
            x.setGuarantee(15, 0);
            x.award(0, 0);
            x.award(1, 1);
            Check.thrownBy(x, y -> y.award(9, 15));
            Check.equal("before it", "1 15 9", Check.reasonOf(x));
            act.on(x);
            Check.equal("after it", "0 0 -1", Check.reasonOf(x));
        }
    }

    static void promise19ReasonOfAGuarantee() {
        Edges.says("For an award that cannot be revoked because of the guarantee, the number is 8, and the detail the"
                + " guarantee.");
        ShiftMarket x = covered();
        Check.thrownBy(x, y -> y.revoke(7, 15));
        Check.equal("the reason", "8 3 7", Check.reasonOf(x));
    }

    static void promise19ReasonAfterOtherExceptions() {
        Edges.says("Other exceptions, undo and restore leave the reason as it is.");
        ShiftMarket x = covered();
        Check.thrownBy(x, y -> y.award(0, 15));
        Check.thrownBy(x, y -> y.award(10, 15));
        Check.thrownBy(x, y -> y.revoke(9, 16));
        Check.thrownBy(x, y -> y.revoke(0, 15));
        Check.thrownBy(x, y -> y.exchange(9, 15, 9, 15));
        Check.thrownBy(x, y -> y.exchange(9, 15, 0, 0));
        Check.thrownBy(x, y -> y.rotate(9, 15, 8, 15, 8, 15));
        Check.thrownBy(x, y -> y.rotate(9, 15, 8, 15, 0, 15));
        Check.equal("after other exceptions", "3 3 0", Check.reasonOf(x));
        x.restore();
        Check.equal("after restore", "3 3 0", Check.reasonOf(x));
        x.undo();
        x.undo();
        Check.equal("after undo", "3 3 0", Check.reasonOf(x));
    }

    static void promise19ReasonPart() {
        Edges.says("part: 0 for the number, 1 for the detail, 2 for the worker");
        ShiftMarket x = covered();
        Check.thrownBy(x, y -> y.award(5, 15));
        Check.equal("the parts", "3 3 5", Check.row(x.reason(0), x.reason(1), x.reason(2)));
    }

    static void promise19ReasonNoSuchPart() {
        Edges.says("Throws IllegalArgumentException if the part is out of range");
        Edges.refusesOutside("part", 0, 2, Check.ARGUMENT, AwardEdges::covered, ShiftMarket::reason);
        Edges.refusesOutside("part of none", 0, 2, Check.ARGUMENT, ShiftMarket::new, ShiftMarket::reason);
    }

    // ---- promise 20: nextChoice

    static void promise20NextChoiceNoSuchWorker() {
        Edges.says("Throws IndexOutOfBoundsException if there is no such worker");
        Edges.refusesNoWorker(ShiftMarket::nextChoice);
    }

    static void promise20NextChoiceNone() {
        Edges.says("Throws NoSuchElementException if there is none");
        Check.refuses("no bid", Check.ELEMENT, Check::crowded, y -> y.nextChoice(9));
        Check.refuses("no shift", Check.ELEMENT, Edges::workersAlone, y -> y.nextChoice(2));
        Check.refuses("a bid that was taken back", Check.ELEMENT, () -> {
            ShiftMarket x = Check.busy();
            x.setBid(0, 3, 0);
            return x;
        }, y -> y.nextChoice(0));
        Check.refuses("the shift is held", Check.ELEMENT, () -> {
            ShiftMarket x = Check.crowded();
            x.setBid(9, 15, 9);
            return x;
        }, y -> y.nextChoice(9));
        Check.refuses("the shift is covered", Check.ELEMENT, () -> {
            ShiftMarket x = covered();
            x.setBid(0, 15, 1);
            return x;
        }, y -> y.nextChoice(0));
    }

    static void promise20NextChoiceOrderOfExceptions() {
        Edges.says(Edges.ORDER);
        Check.refuses("no worker, and none for any", Check.INDEX, Check::full, y -> y.nextChoice(10));
    }

    static void promise20NextChoiceOfSeveral() {
        Edges.says("of the shifts with a bid of the worker and without an obstacle, the one with the most points, of"
                + " several the one that begins first, of several of these the one with the lowest number");
        ShiftMarket x = new ShiftMarket();
        x.addWorker(0, 0, 168, 28, 15);
        x.addShift(1, 1, 12, 0, 1);
        x.addShift(1, 0, 1, 0, 1);
        x.addShift(0, 23, 12, 0, 1);
        x.addShift(0, 23, 1, 3, 1);
        x.addShift(27, 23, 1, 0, 1);
        Check.equal("a bid of 1", "0 0", Check.row(x.setBid(0, 0, 1), x.nextChoice(0)));
        Check.equal("an hour before", "0 1", Check.row(x.setBid(0, 1, 1), x.nextChoice(0)));
        Check.equal("an hour before, on another day", "0 3", Check.row(x.setBid(0, 3, 1), x.nextChoice(0)));
        Check.equal("at the same hour", "0 2", Check.row(x.setBid(0, 2, 1), x.nextChoice(0)));
        Check.equal("a point more, at the last hour", "0 4", Check.row(x.setBid(0, 4, 2), x.nextChoice(0)));
        x.award(0, 4);
        Check.equal("the next one", "2", Check.row(x.nextChoice(0)));
        x.award(0, 2);
        Check.equal("all have obstacles", "NoSuchElementException", Check.thrownBy(x, y -> y.nextChoice(0)));
    }

    // ---- promises 21 and 22: round and runAll

    static void promise21RoundWithoutAwards() {
        Edges.says("A worker who is considered gets, of the shifts with a bid of the worker and without an obstacle");
        Check.equal("neither workers nor shifts", 0, new ShiftMarket().round());
        Check.equal("no shifts", 0, Edges.workersAlone().round());
        Check.equal("no workers", 0, Edges.shiftsAlone().round());
        Check.equal("no bids", "0 0", Check.row(Check.full().round(), Check.full().awardCount()));
    }

    static void promise21RoundGivesEachWorkerOne() {
        Edges.says("In a round, the workers are considered one after the other in their order.");
        ShiftMarket x = Check.full();
        for (int worker = 0; worker < 10; worker++) {
            x.setBid(worker, worker, 9);
            x.setBid(worker, 15, 1);
        }
        Check.equal("ten", "10 0:0 1:1 2:2 3:3 4:4 5:5 6:6 7:7 8:8 9:9", x.round() + " " + Check.awardsOf(x));
        Check.equal("as many as the need", "3 13 0 1 2", Check.row(x.round(), x.awardCount(), x.awardAt(10, 0),
                x.awardAt(11, 0), x.awardAt(12, 0)));
        Check.equal("none", "0 13", Check.row(x.round(), x.awardCount()));
    }

    static void promise21RoundInTheOrder() {
        Edges.says("In a round, the workers are considered one after the other in their order.");
        ShiftMarket x = new ShiftMarket();
        for (int seniority : new int[] {0, 99, 98, 99}) {
            x.addWorker(seniority, 0, 168, 28, 1);
        }
        x.addShift(0, 0, 1, 0, 3);
        for (int worker = 0; worker < 4; worker++) {
            x.setBid(worker, 0, 1 + worker);
        }
        Check.equal("the last one gets none", "3 1:0 3:0 2:0", x.round() + " " + Check.awardsOf(x));
    }

    static void promise22RunAllWithoutAwards() {
        Edges.says("Makes rounds until one makes no award.");
        Check.equal("neither workers nor shifts", 0, new ShiftMarket().runAll());
        Check.equal("no shifts", 0, Edges.workersAlone().runAll());
        Check.equal("no workers", 0, Edges.shiftsAlone().runAll());
        Check.equal("no bids", 0, Check.full().runAll());
        ShiftMarket x = covered();
        x.runAll();
        Check.equal("all that can be given is given", 0, x.runAll());
    }

    static void promise22RunAllGivesEverything() {
        Edges.says("Makes rounds until one makes no award.");
        ShiftMarket x = Check.full();
        for (int worker = 0; worker < 10; worker++) {
            for (int count = 0; count < 8; count++) {
                x.setBid(worker, (worker + 2 * count) % 16, 9);
            }
        }
        Check.equal("all needs", "48 48 0 0", Check.row(x.runAll(), x.awardCount(), x.openShifts(), x.runAll()));
        ShiftMarket one = Check.crowded();
        Check.equal("eight rounds with an award", "8 9 255", Check.row(one.runAll(), one.awardCount(), one.held(4)));
        Check.equal("the most points first", "4 7 4 0", Check.row(one.awardAt(1, 0), one.awardAt(1, 1),
                one.awardAt(8, 0), one.awardAt(8, 1)));
    }
}
