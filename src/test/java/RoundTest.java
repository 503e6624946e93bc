/** Promises 20 to 22: the next choice, a round, and all rounds. */
public final class RoundTest {
    public static void main(String[] args) {
        nextChoice();
        round();
        runAll();
        roundsAreChanges();
        wrongInputs();
        Check.end("RoundTest");
    }

    private static void nextChoice() {
        ShiftMarket x = new ShiftMarket();
        x.addWorker(0, 0, 10, 28, 1);
        x.addShift(5, 8, 4, 0, 1);
        x.addShift(5, 3, 4, 0, 1);
        x.addShift(4, 23, 4, 0, 1);
        x.addShift(4, 23, 4, 0, 1);
        x.addShift(0, 0, 4, 1, 1);
        x.setBid(0, 4, 9);
        x.setBid(0, 0, 3);
        Check.equal("the only one without an obstacle", 0, x.nextChoice(0));
        x.setBid(0, 1, 3);
        Check.equal("as many points, but earlier", 1, x.nextChoice(0));
        x.setBid(0, 3, 3);
        Check.equal("as many points, but on the day before", 3, x.nextChoice(0));
        x.setBid(0, 2, 3);
        Check.equal("all alike, but a lower number", 2, x.nextChoice(0));
        x.setBid(0, 0, 4);
        Check.equal("more points", 0, x.nextChoice(0));
        x.award(0, 0);
        Check.equal("the best one is held", 2, x.nextChoice(0));
        x.award(0, 1);
        Check.equal("nothing else fits the hours", "NoSuchElementException", Check.thrownBy(x, y -> y.nextChoice(0)));
        Check.equal("nextChoice gives nothing", "3", Check.row(x.held(0)));
    }

    private static void round() {
        ShiftMarket x = new ShiftMarket();
        x.addWorker(1, 0, 168, 28, 15);
        x.addWorker(7, 0, 168, 28, 15);
        x.addWorker(1, 0, 168, 28, 15);
        x.addWorker(9, 0, 168, 28, 15);
        x.addShift(0, 0, 4, 0, 1);
        x.addShift(1, 0, 4, 0, 2);
        x.addShift(2, 0, 4, 0, 3);
        for (int worker = 0; worker < 3; worker++) {
            x.setBid(worker, 0, 9);
            x.setBid(worker, 1, 8);
            x.setBid(worker, 2, 7);
        }
        Check.equal("a round", "3 1:0 0:1 2:1", x.round() + " " + Check.awardsOf(x));
        Check.equal("a second round", "3 1:0 0:1 2:1 1:2 0:2 2:2", x.round() + " " + Check.awardsOf(x));
        Check.equal("a round without awards", "0 6", Check.row(x.round(), x.awardCount()));
        Check.equal("the reason after a round", "0 0 -1", Check.reasonOf(x));
    }

    private static void runAll() {
        ShiftMarket x = Check.full();
        for (int worker = 0; worker < 10; worker++) {
            for (int count = 0; count < 8; count++) {
                x.setBid(worker, (worker + 2 * count) % 16, 1 + count);
            }
        }
        ShiftMarket same = Check.full();
        for (int worker = 0; worker < 10; worker++) {
            for (int count = 0; count < 8; count++) {
                same.setBid(worker, (worker + 2 * count) % 16, 1 + count);
            }
        }
        int sum = 0;
        int rounds = 0;
        for (int made = same.round(); made > 0; made = same.round()) {
            sum += made;
            rounds++;
        }
        Check.equal("runAll is as many rounds as make awards", sum + " " + Check.awardsOf(same),
                x.runAll() + " " + Check.awardsOf(x));
        Check.equal("all is covered by several rounds", "48 0 true", sum + " " + x.openShifts() + " " + (rounds > 2));
        Check.equal("runAll once more", 0, x.runAll());
        ShiftMarket one = Check.full();
        for (int shift = 0; shift < 8; shift++) {
            one.setBid(6, shift, 5);
        }
        Check.equal("one award a round", "8 6:0 6:1 6:2 6:3 6:4 6:5 6:6 6:7", one.runAll() + " " + Check.awardsOf(one));
    }

    private static void roundsAreChanges() {
        ShiftMarket x = Check.free();
        x.setBid(0, 0, 1);
        x.setBid(0, 1, 2);
        x.setBid(1, 1, 2);
        String before = Check.stateOf(x);
        x.round();
        Check.equal("round is one change", "7 " + before, x.undo() + " " + Check.stateOf(x));
        Check.equal("runAll", 3, x.runAll());
        Check.equal("runAll is one change", "7 " + before, x.undo() + " " + Check.stateOf(x));
        x.round();
        x.runAll();
        x.round();
        x.runAll();
        Check.equal("what makes no award is a change too", "7 3 6 3 5 2 4 0", Check.row(x.undo(), x.awardCount(),
                x.undo(), x.awardCount(), x.undo(), x.awardCount(), x.undo(), x.awardCount()));
        ShiftMarket empty = new ShiftMarket();
        Check.equal("without workers", "0 0 1 0", Check.row(empty.round(), empty.runAll(), empty.undo(),
                empty.undo()));
    }

    private static void wrongInputs() {
        for (int wrong : new int[] {-1, 3, Integer.MIN_VALUE, Integer.MAX_VALUE}) {
            Check.refuses("nextChoice of worker " + wrong, Check.INDEX, Check::free, y -> y.nextChoice(wrong));
        }
        Check.refuses("nextChoice without a bid", Check.ELEMENT, Check::free, y -> y.nextChoice(0));
    }
}
