/** Promises 34 to 39: open shifts, the list of awards, whether all is legal, the average and the share. */
public final class AccountTest {
    public static void main(String[] args) {
        openShifts();
        awards();
        isLegal();
        averageHours();
        coveredShare();
        Check.end("AccountTest");
    }

    private static void openShifts() {
        ShiftMarket x = Check.full();
        Check.equal("all are open", 65535, x.openShifts());
        x.award(0, 15);
        x.award(1, 15);
        Check.equal("a coverage of 2 of 3", 65535, x.openShifts());
        x.award(2, 15);
        Check.equal("a coverage of 3 of 3", 32767, x.openShifts());
        ShiftMarket y = Check.free();
        for (int shift : new int[] {0, 2}) {
            y.award(0, shift);
            y.award(1, shift);
        }
        Check.equal("two of four are open", 10, y.openShifts());
        y.revoke(1, 0);
        Check.equal("after a revocation", 11, y.openShifts());
    }

    private static void awards() {
        ShiftMarket x = Check.free();
        x.award(2, 3);
        x.award(0, 1);
        x.award(1, 3);
        Check.equal("the list", "3 2 3 0 1 1 3", Check.row(x.awardCount(), x.awardAt(0, 0), x.awardAt(0, 1),
                x.awardAt(1, 0), x.awardAt(1, 1), x.awardAt(2, 0), x.awardAt(2, 1)));
        for (int wrong : new int[] {-1, 1, 48, Integer.MIN_VALUE, Integer.MAX_VALUE}) {
            Check.refuses("award at " + wrong, Check.INDEX, AccountTest::oneAward, y -> y.awardAt(wrong, 2));
        }
        for (int wrong : new int[] {-1, 2, Integer.MIN_VALUE, Integer.MAX_VALUE}) {
            Check.refuses("award's part " + wrong, Check.ARGUMENT, AccountTest::oneAward, y -> y.awardAt(0, wrong));
        }
        ShiftMarket full = Check.full();
        for (int index = 0; index < 48; index++) {
            full.award(index % 3, 15 - index / 3);
        }
        Check.equal("as many awards as there can be", "48 2 0 true", Check.row(full.awardCount(), full.awardAt(47, 0),
                full.awardAt(47, 1)) + " " + full.isLegal());
    }

    private static ShiftMarket oneAward() {
        ShiftMarket x = Check.free();
        x.award(0, 1);
        return x;
    }

    /**
     * No run of calls makes a market that is not legal: each award and exchange is looked at before it is made,
     * and neither limits nor needs change. So this looks at markets that are at a limit.
     */
    private static void isLegal() {
        ShiftMarket x = new ShiftMarket();
        x.addWorker(0, 8, 16, 2, 1);
        x.addWorker(0, 0, 168, 28, 1);
        x.addShift(0, 0, 8, 0, 1);
        x.addShift(1, 0, 8, 0, 1);
        x.addShift(1, 16, 8, 0, 2);
        x.addShift(7, 8, 12, 0, 1);
        x.award(0, 0);
        Check.equal("one award", true, x.isLegal());
        x.award(0, 1);
        Check.equal("as many hours and days as may be", true, x.isLegal());
        x.revoke(0, 0);
        x.award(0, 2);
        Check.equal("as little rest as may be", true, x.isLegal());
        x.setGuarantee(2, 1);
        Check.equal("as much coverage as the guarantee", true, x.isLegal());
        x.award(1, 2);
        x.setGuarantee(2, 2);
        Check.equal("as much coverage as the need", true, x.isLegal());
        x.award(1, 3);
        x.exchange(0, 1, 1, 3);
        Check.equal("after an exchange", true, x.isLegal());
        x.undo();
        Check.equal("after undo", true, x.isLegal());
    }

    private static void averageHours() {
        ShiftMarket x = new ShiftMarket();
        x.addShift(0, 0, 5, 0, 3);
        x.addShift(27, 0, 12, 0, 3);
        Check.equal("without workers", "ArithmeticException", Check.thrownBy(x, ShiftMarket::averageHours));
        x.addWorker(0, 0, 168, 28, 1);
        Check.equal("without awards", 0.0, x.averageHours());
        x.award(0, 0);
        Check.equal("one worker", 5.0, x.averageHours());
        x.addWorker(0, 0, 168, 28, 1);
        x.addWorker(0, 0, 168, 28, 1);
        Check.equal("three workers", 5.0 / 3.0, x.averageHours());
        x.award(1, 0);
        x.award(1, 1);
        Check.equal("several awards", 22.0 / 3.0, x.averageHours());
        Check.refuses("averageHours without workers", Check.ARITHMETIC, ShiftMarket::new, ShiftMarket::averageHours);
    }

    private static void coveredShare() {
        ShiftMarket x = new ShiftMarket();
        x.addWorker(0, 0, 168, 28, 1);
        Check.equal("without shifts", "ArithmeticException", Check.thrownBy(x, ShiftMarket::coveredShare));
        x.addShift(0, 0, 5, 0, 3);
        Check.equal("without awards", 0.0f, x.coveredShare());
        x.award(0, 0);
        Check.equal("one of three", 1.0f / 3.0f, x.coveredShare());
        x.addShift(1, 0, 5, 0, 2);
        x.addShift(2, 0, 5, 0, 1);
        x.award(0, 1);
        x.award(0, 2);
        Check.equal("three of six", 0.5f, x.coveredShare());
        x.addShift(3, 0, 5, 0, 1);
        Check.equal("three of seven", 3.0f / 7.0f, x.coveredShare());
        x.revoke(0, 1);
        Check.equal("two of seven", 2.0f / 7.0f, x.coveredShare());
        Check.refuses("coveredShare without shifts", Check.ARITHMETIC, ShiftMarket::new, ShiftMarket::coveredShare);
        ShiftMarket all = Check.free();
        for (int index = 0; index < 8; index++) {
            all.award(index % 2, index / 2);
        }
        Check.equal("all of it", 1.0f, all.coveredShare());
    }
}
