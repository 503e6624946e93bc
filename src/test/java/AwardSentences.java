/** What promises 15 to 22 say of ordinary calls, a test for each sentence. */
final class AwardSentences {
    private AwardSentences() {
    }

    /** Three workers whom nothing limits hold all of four shifts that need three, whose guarantees are 0. */
    private static ShiftMarket allHeld() {
        ShiftMarket x = Edges.workersAlone();
        for (int day = 0; day < 4; day++) {
            x.addShift(day, 8, 8, day, 3);
            for (int worker = 0; worker < 3; worker++) {
                x.award(worker, day);
            }
        }
        return x;
    }

    /** Each worker w bids for the shifts w, w + 1 and w + 2, most for the one in the middle; worker 0 comes last. */
    private static ShiftMarket bidding() {
        ShiftMarket x = new ShiftMarket();
        for (int worker = 0; worker < 4; worker++) {
            x.addWorker(worker == 0 ? 10 : 20 - worker, 0, 168, 28, 15);
        }
        for (int day = 0; day < 6; day++) {
            x.addShift(day, 8, 8, 0, 1);
        }
        for (int worker = 0; worker < 4; worker++) {
            x.setBid(worker, worker, 5);
            x.setBid(worker, worker + 1, 9);
            x.setBid(worker, worker + 2, 7);
        }
        return x;
    }

    // ---- promise 15: obstacle

    static void promise15ObstacleOfThisWorkerForThisShift() {
        Edges.says("Returns the obstacle against giving a shift to a worker.");
        Edges.says("worker: the number of the worker");
        Edges.says("shift: the number of the shift");
        ShiftMarket x = Edges.shiftsAlone();
        x.addWorker(0, 0, 168, 28, 1);
        x.addWorker(0, 24, 168, 28, 1);
        x.addWorker(0, 0, 15, 28, 1);
        x.addWorker(0, 0, 168, 1, 1);
        x.addWorker(0, 0, 168, 28, 14);
        x.addShift(0, 20, 8, 0, 3);
        for (int worker = 0; worker < 4; worker++) {
            x.award(worker, worker);
        }
        String[][] due = {{"1 0", "3 1", "3 1", "3 1", "0 0"}, {"3 1", "1 1", "3 1", "3 1", "5 1"},
            {"3 1", "3 1", "1 2", "3 1", "6 0"}, {"3 1", "3 1", "3 1", "1 3", "0 0"},
            {"2 0", "2 0", "2 0", "2 0", "2 0"}};
        for (int worker = 0; worker < 5; worker++) {
            for (int shift = 0; shift < 5; shift++) {
                Check.equal("worker " + worker + ", shift " + shift, due[worker][shift],
                        ObstacleTest.of(x, worker, shift));
            }
        }
    }

    static void promise15ObstacleWithWhatTheWorkerHolds() {
        Edges.says("Whether a worker can be given a shift is looked at with a set of shifts, those that the worker"
                + " holds unless it is told otherwise.");
        ShiftMarket x = Edges.workersAlone();
        x.addShift(3, 8, 8, 0, 2);
        x.addShift(3, 10, 8, 0, 2);
        x.addShift(9, 8, 8, 0, 2);
        x.setBid(0, 1, 9);
        Check.equal("what is bid for alone", "0 0", ObstacleTest.of(x, 0, 0));
        x.award(1, 1);
        Check.equal("what another one holds", "0 0", ObstacleTest.of(x, 0, 0));
        x.award(0, 1);
        Check.equal("what is held", "4 1", ObstacleTest.of(x, 0, 0));
        x.award(2, 2);
        x.exchange(0, 1, 2, 2);
        Check.equal("what was given, what was gotten", "0 0 4 1", ObstacleTest.of(x, 0, 0) + " "
                + ObstacleTest.of(x, 2, 0));
        x.revoke(2, 1);
        Check.equal("what was revoked", "0 0", ObstacleTest.of(x, 2, 0));
        x.undo();
        Check.equal("the revocation is taken back", "4 1", ObstacleTest.of(x, 2, 0));
    }

    // ---- promises 16 and 17: award and revoke

    static void promise16AwardGivesTheShift() {
        Edges.says("An award gives a shift to a worker, who then holds it.");
        Edges.says("worker: the number of the worker");
        Edges.says("shift: the number of the shift");
        for (int index = 0; index < 12; index++) {
            int worker = index / 4;
            int shift = index % 4;
            ShiftMarket x = Check.free();
            x.award(worker, shift);
            for (int other = 0; other < 3; other++) {
                Check.equal("held by " + other, other == worker ? 1 << shift : 0, x.held(other));
            }
            for (int other = 0; other < 4; other++) {
                Check.equal("holders of " + other, other == shift ? 1 << worker : 0, x.holders(other));
            }
            Check.equal("the list", worker + ":" + shift, Check.awardsOf(x));
        }
    }

    static void promise16AwardWithOrWithoutABid() {
        Edges.says("Awards a shift to a worker, with or without a bid.");
        ShiftMarket x = Check.free();
        x.setBid(0, 1, 6);
        x.setBid(1, 2, 9);
        Check.equal("with a bid, and without one", "1 1 2", Check.row(x.award(0, 1), x.award(0, 2), x.award(1, 2)));
        Check.equal("the bids stay", "6 0 9", Check.row(x.bid(0, 1), x.bid(0, 2), x.bid(1, 2)));
        Check.equal("the list", "0:1 0:2 1:2", Check.awardsOf(x));
    }

    static void promise17RevokeOfThisWorkerAndShift() {
        Edges.says("worker: the number of the worker");
        Edges.says("shift: the number of the shift");
        for (int index = 0; index < 12; index++) {
            int worker = index / 4;
            int shift = index % 4;
            ShiftMarket x = allHeld();
            x.revoke(worker, shift);
            for (int other = 0; other < 3; other++) {
                Check.equal("held by " + other, other == worker ? 15 - (1 << shift) : 15, x.held(other));
            }
            for (int other = 0; other < 4; other++) {
                Check.equal("holders of " + other, other == shift ? 7 - (1 << worker) : 7, x.holders(other));
            }
            Check.equal("the list is one shorter", 11, x.awardCount());
        }
    }

    // ---- promises 18 and 19: setGuarantee and reason

    static void promise18SetGuaranteeOfThisShift() {
        Edges.says("Sets the guarantee of a shift.");
        Edges.says("shift: the number of the shift");
        for (int shift = 0; shift < 4; shift++) {
            ShiftMarket x = allHeld();
            x.setGuarantee(shift, 2);
            for (int other = 0; other < 4; other++) {
                Check.equal("the guarantee of " + other, other == shift ? 2 : 0, x.shift(other, 5));
            }
            x.revoke(0, shift);
            int guaranteed = shift;
            Check.equal("it holds", "UnsupportedOperationException", Check.thrownBy(x, y -> y.revoke(1, guaranteed)));
        }
    }

    static void promise18SetGuaranteeReturnsThePrevious() {
        Edges.says("Returns the previous guarantee.");
        ShiftMarket x = allHeld();
        Check.equal("of one shift and of another one", "0 2 0 3 1", Check.row(x.setGuarantee(1, 2),
                x.setGuarantee(1, 3), x.setGuarantee(2, 1), x.setGuarantee(1, 0), x.setGuarantee(2, 1)));
    }

    static void promise19ReasonOfTheLatestCall() {
        Edges.says("The reason is that of the latest call of award, revoke, exchange or rotate, and consists of three"
                + " numbers: the number of the obstacle, its detail, and the worker.");
        ShiftMarket x = allHeld();
        x.addShift(3, 10, 8, 0, 2);
        x.setGuarantee(2, 3);
        Check.thrownBy(x, y -> y.award(1, 4));
        Check.equal("of award", "4 3 1", Check.reasonOf(x));
        Check.thrownBy(x, y -> y.revoke(0, 2));
        Check.equal("of revoke", "8 3 0", Check.reasonOf(x));
        Check.thrownBy(x, y -> y.exchange(2, 1, 0, 3));
        Check.equal("of exchange", "1 3 2", Check.reasonOf(x));
        Check.thrownBy(x, y -> y.rotate(1, 0, 2, 1, 0, 2));
        Check.equal("of rotate", "1 2 1", Check.reasonOf(x));
        Check.thrownBy(x, y -> y.award(2, 0));
        Check.equal("of award once more", "1 0 2", Check.reasonOf(x));
    }

    static void promise19ReasonReturnsTheNumber() {
        Edges.says("Returns a number of the reason.");
        Edges.says("Returns the number.");
        ShiftMarket x = allHeld();
        Check.thrownBy(x, y -> y.award(2, 3));
        Check.equal("each of them, in any order", "2 1 3 3 2 1", Check.row(x.reason(2), x.reason(0), x.reason(1),
                x.reason(1), x.reason(2), x.reason(0)));
    }

    static void promise19ReasonIsLeftByOtherCalls() {
        Edges.says("The reason is that of the latest call of award, revoke, exchange or rotate");
        ShiftMarket x = allHeld();
        Check.thrownBy(x, y -> y.award(2, 3));
        x.obstacle(1, 0, 0);
        x.partner(0, 0, 0);
        x.setBid(0, 1, 9);
        Check.thrownBy(x, y -> y.nextChoice(0));
        x.round();
        x.runAll();
        x.save();
        x.addShift(9, 9, 9, 0, 1);
        x.bestSet(0);
        x.isLegal();
        Check.equal("the reason", "1 3 2", Check.reasonOf(x));
    }

    // ---- promises 20 to 22: nextChoice, round and runAll

    static void promise20NextChoiceIsWhatTheRoundGives() {
        Edges.says("Returns the shift that a worker would get now if considered in a round.");
        Edges.says("worker: the number of the worker");
        Edges.says("Returns the shift.");
        ShiftMarket x = bidding();
        Check.equal("of each worker", "1 2 3 4", Check.row(x.nextChoice(0), x.nextChoice(1), x.nextChoice(2),
                x.nextChoice(3)));
        Check.equal("nothing is given by it", "0 0", Check.row(x.awardCount(), x.held(0)));
        for (int rank = 0; rank < 4; rank++) {
            int worker = x.order(rank);
            int choice = x.nextChoice(worker);
            ShiftMarket alone = bidding();
            for (int other = 0; other < 4; other++) {
                for (int shift = 0; other != worker && shift < 6; shift++) {
                    alone.setBid(other, shift, 0);
                }
            }
            alone.round();
            Check.equal("worker " + worker + " considered alone", worker + ":" + choice, Check.awardsOf(alone));
        }
        x.award(3, 1);
        x.award(0, 2);
        Check.equal("now that others hold what they want", "0 3", Check.row(x.nextChoice(0), x.nextChoice(1)));
    }

    static void promise21RoundMakesOne() {
        Edges.says("Makes a round.");
        Edges.says("Returns the number of awards that were made.");
        ShiftMarket x = bidding();
        Check.equal("the order", "1 2 3 0", orderOf(withSeniorities()));
        Check.equal("the first", "4 1:2 2:3 3:4 0:1", x.round() + " " + Check.awardsOf(x));
        Check.equal("the second", "2 1:2 2:3 3:4 0:1 3:5 0:0", x.round() + " " + Check.awardsOf(x));
        Check.equal("the third", "0 6", Check.row(x.round(), x.awardCount()));
        ShiftMarket other = withSeniorities();
        Check.equal("one after the other, each with what is left", "4 1:1 2:2 3:3 0:0", other.round() + " "
                + Check.awardsOf(other));
    }

    /** Like bidding, but all of the workers want the shift 1 most, then 2, 3 and 0. */
    private static ShiftMarket withSeniorities() {
        ShiftMarket x = new ShiftMarket();
        for (int seniority : new int[] {1, 4, 3, 2}) {
            x.addWorker(seniority, 0, 168, 28, 15);
        }
        for (int day = 0; day < 4; day++) {
            x.addShift(day, 8, 8, 0, 1);
        }
        for (int worker = 0; worker < 4; worker++) {
            x.setBid(worker, 0, 1);
            x.setBid(worker, 1, 9);
            x.setBid(worker, 2, 8);
            x.setBid(worker, 3, 7);
        }
        return x;
    }

    private static String orderOf(ShiftMarket x) {
        return Check.row(x.order(0), x.order(1), x.order(2), x.order(3));
    }

    static void promise22RunAllMakesAllRounds() {
        Edges.says("Makes rounds until one makes no award.");
        Edges.says("Returns the number of awards that were made.");
        ShiftMarket x = bidding();
        Check.equal("two rounds", "6 1:2 2:3 3:4 0:1 3:5 0:0", x.runAll() + " " + Check.awardsOf(x));
        x.revoke(3, 5);
        x.revoke(0, 1);
        Check.equal("what was revoked", "2 1:2 2:3 3:4 0:0 1:1 3:5", x.runAll() + " " + Check.awardsOf(x));
        Check.equal("no more", "0 0", Check.row(x.runAll(), x.round()));
    }
}
