/** Promises 23 to 25: exchanges of two and of three, and the partner. */
public final class ExchangeTest {
    public static void main(String[] args) {
        exchange();
        exchangeOfTheSameShift();
        exchangeLooksWithoutWhatIsGiven();
        exchangeRefused();
        exchangeExceptions();
        rotate();
        rotateRefused();
        rotateExceptions();
        partner();
        partnerWithObstacles();
        partnerExceptions();
        Check.end("ExchangeTest");
    }

    /** Nothing limits the workers; worker 0 holds shift 0, worker 1 shift 1, worker 2 the shifts 2 and 3. */
    private static ShiftMarket held() {
        ShiftMarket x = Check.free();
        x.award(0, 0);
        x.award(2, 2);
        x.award(1, 1);
        x.award(2, 3);
        return x;
    }

    /** Like held, but worker 0 also holds shift 1, as worker 1 does. */
    private static ShiftMarket heldByTwo() {
        ShiftMarket x = held();
        x.award(0, 1);
        return x;
    }

    /**
     * Worker 0 has skill 0 alone, worker 1 few hours, worker 2 few days, worker 3 much rest; each shift needs
     * one worker; worker w holds shift w, and the workers 0, 2 and 3 hold the shifts 4, 6 and 5 too.
     */
    private static ShiftMarket limited() {
        ShiftMarket x = new ShiftMarket();
        x.addWorker(0, 0, 168, 28, 1);
        x.addWorker(0, 0, 8, 28, 3);
        x.addWorker(0, 0, 168, 1, 3);
        x.addWorker(0, 12, 168, 28, 3);
        x.addShift(0, 8, 6, 0, 1);
        x.addShift(1, 8, 6, 1, 1);
        x.addShift(2, 8, 10, 0, 1);
        x.addShift(4, 8, 6, 0, 1);
        x.addShift(3, 23, 6, 0, 1);
        x.addShift(0, 10, 6, 0, 1);
        x.addShift(12, 8, 6, 0, 1);
        for (int worker = 0; worker < 4; worker++) {
            x.award(worker, worker);
        }
        x.award(0, 4);
        x.award(3, 5);
        x.award(2, 6);
        return x;
    }

    private static void refused(String what, String reason, Check.Recipe recipe, Check.Act act) {
        Check.refuses(what, Check.UNSUPPORTED, recipe, act);
        ShiftMarket x = recipe.make();
        Check.thrownBy(x, act);
        Check.equal(what + ": the reason", reason, Check.reasonOf(x));
    }

    private static void exchange() {
        ShiftMarket x = held();
        Check.thrownBy(x, y -> y.award(0, 0));
        x.exchange(0, 0, 2, 3);
        Check.equal("each award stays at its place", "2:0 2:2 1:1 0:3", Check.awardsOf(x));
        Check.equal("the reason after it", "0 0 -1", Check.reasonOf(x));
        Check.equal("what is held after it", "8 2 5", Check.row(x.held(0), x.held(1), x.held(2)));
        x.exchange(1, 1, 2, 2);
        Check.equal("the first worker's award is the later one", "2:0 1:2 2:1 0:3", Check.awardsOf(x));
        Check.equal("exchange is a change", "7 2:0 2:2 1:1 0:3", x.undo() + " " + Check.awardsOf(x));
        ShiftMarket covered = limited();
        covered.exchange(0, 0, 3, 5);
        Check.equal("obstacle 3 is left out", "8 48", Check.row(covered.holders(0), covered.held(0)));
        ShiftMarket guaranteed = held();
        guaranteed.setGuarantee(0, 1);
        guaranteed.setGuarantee(1, 1);
        guaranteed.exchange(0, 0, 1, 1);
        Check.equal("guarantees stay", "1:0 2:2 0:1 2:3 1 1", Check.awardsOf(guaranteed) + " "
                + Check.row(guaranteed.shift(0, 5), guaranteed.shift(1, 5)));
    }

    private static void exchangeOfTheSameShift() {
        ShiftMarket x = heldByTwo();
        x.exchange(0, 1, 1, 1);
        Check.equal("the same shift", "0:0 2:2 0:1 2:3 1:1", Check.awardsOf(x));
        Check.equal("what is held", "3 2", Check.row(x.held(0), x.held(1)));
    }

    private static void exchangeLooksWithoutWhatIsGiven() {
        ShiftMarket x = new ShiftMarket();
        x.addWorker(0, 24, 8, 1, 1);
        x.addWorker(0, 24, 8, 1, 1);
        x.addShift(1, 8, 8, 0, 1);
        x.addShift(1, 10, 8, 0, 1);
        x.award(0, 0);
        x.award(1, 1);
        x.exchange(0, 0, 1, 1);
        Check.equal("shifts that overlap are exchanged", "1:0 0:1", Check.awardsOf(x));
    }

    private static void exchangeRefused() {
        refused("the first worker gets what it holds", "1 1 0", ExchangeTest::heldByTwo, y -> y.exchange(0, 0, 1, 1));
        refused("the other worker gets what it holds", "1 1 0", ExchangeTest::heldByTwo, y -> y.exchange(1, 1, 0, 0));
        refused("the first worker's skill", "2 1 0", ExchangeTest::limited, y -> y.exchange(0, 0, 1, 1));
        refused("the other worker's skill", "2 1 0", ExchangeTest::limited, y -> y.exchange(1, 1, 0, 0));
        refused("the first worker's overlap", "4 0 0", ExchangeTest::limited, y -> y.exchange(0, 4, 3, 5));
        refused("the first worker's rest", "5 3 3", ExchangeTest::limited, y -> y.exchange(3, 5, 0, 4));
        refused("the first worker's hours", "6 0 1", ExchangeTest::limited, y -> y.exchange(1, 1, 2, 2));
        refused("the other worker's hours", "6 0 1", ExchangeTest::limited, y -> y.exchange(2, 2, 1, 1));
        refused("the first worker's days", "7 2 2", ExchangeTest::limited, y -> y.exchange(2, 6, 0, 4));
        refused("the other worker's days", "7 2 2", ExchangeTest::limited, y -> y.exchange(0, 4, 2, 6));
    }

    private static void exchangeExceptions() {
        for (int wrong : new int[] {-1, 3, Integer.MIN_VALUE, Integer.MAX_VALUE}) {
            Check.refuses("exchange of worker " + wrong, Check.INDEX, ExchangeTest::held,
                    y -> y.exchange(wrong, 0, 1, 1));
            Check.refuses("exchange with worker " + wrong, Check.INDEX, ExchangeTest::held,
                    y -> y.exchange(0, 0, wrong, 1));
            Check.refuses("exchange of twice worker " + wrong, Check.INDEX, ExchangeTest::held,
                    y -> y.exchange(wrong, 0, wrong, 0));
        }
        for (int wrong : new int[] {-1, 4, Integer.MIN_VALUE, Integer.MAX_VALUE}) {
            Check.refuses("exchange of shift " + wrong, Check.INDEX, ExchangeTest::held,
                    y -> y.exchange(0, wrong, 1, 1));
            Check.refuses("exchange for shift " + wrong, Check.INDEX, ExchangeTest::held,
                    y -> y.exchange(0, 0, 0, wrong));
        }
        Check.refuses("exchange with oneself", Check.ARGUMENT, ExchangeTest::held, y -> y.exchange(2, 2, 2, 3));
        Check.refuses("exchange with oneself of nothing held", Check.ARGUMENT, ExchangeTest::held,
                y -> y.exchange(0, 2, 0, 3));
        Check.refuses("exchange of a shift not held", Check.ELEMENT, ExchangeTest::held, y -> y.exchange(0, 1, 1, 1));
        Check.refuses("exchange for a shift not held", Check.ELEMENT, ExchangeTest::held,
                y -> y.exchange(0, 0, 1, 0));
        Check.refuses("exchange of a shift not held, with an obstacle", Check.ELEMENT, ExchangeTest::limited,
                y -> y.exchange(0, 6, 1, 1));
    }

    private static void rotate() {
        ShiftMarket x = held();
        Check.thrownBy(x, y -> y.award(0, 0));
        x.rotate(0, 0, 1, 1, 2, 2);
        Check.equal("each award stays at its place", "1:0 0:2 2:1 2:3", Check.awardsOf(x));
        Check.equal("what is held after it", "4 1 10", Check.row(x.held(0), x.held(1), x.held(2)));
        Check.equal("the reason after it", "0 0 -1", Check.reasonOf(x));
        Check.equal("rotate is a change", "7 0:0 2:2 1:1 2:3", x.undo() + " " + Check.awardsOf(x));
        ShiftMarket same = heldByTwo();
        same.rotate(0, 1, 1, 1, 2, 3);
        Check.equal("the same shift twice", "0:0 2:2 2:1 0:3 1:1", Check.awardsOf(same));
        ShiftMarket covered = limited();
        covered.rotate(0, 0, 1, 1, 3, 3);
        Check.equal("obstacle 3 is left out, and the other way round is none", "24 1 68 34",
                Check.row(covered.held(0), covered.held(1), covered.held(2), covered.held(3)));
    }

    private static void rotateRefused() {
        refused("the first worker", "2 1 0", ExchangeTest::limited, y -> y.rotate(0, 0, 3, 3, 1, 1));
        refused("the second worker", "6 0 1", ExchangeTest::limited, y -> y.rotate(2, 2, 1, 1, 3, 3));
        refused("the third worker", "6 0 1", ExchangeTest::limited, y -> y.rotate(3, 3, 2, 2, 1, 1));
        refused("the first and the second worker", "6 0 1", ExchangeTest::limited, y -> y.rotate(1, 1, 0, 0, 2, 2));
        refused("the first and the third worker", "2 1 0", ExchangeTest::limited, y -> y.rotate(0, 0, 2, 2, 1, 1));
        refused("the second and the third worker", "6 0 1", ExchangeTest::limited,
                y -> y.rotate(2, 2, 1, 1, 0, 0));
        refused("one gets what it holds", "1 1 0", ExchangeTest::heldByTwo, y -> y.rotate(1, 1, 0, 0, 2, 2));
    }

    private static void rotateExceptions() {
        for (int wrong : new int[] {-1, 3, Integer.MIN_VALUE, Integer.MAX_VALUE}) {
            Check.refuses("rotate's first worker " + wrong, Check.INDEX, ExchangeTest::held,
                    y -> y.rotate(wrong, 0, 1, 1, 2, 2));
            Check.refuses("rotate's second worker " + wrong, Check.INDEX, ExchangeTest::held,
                    y -> y.rotate(0, 0, wrong, 1, 0, 2));
            Check.refuses("rotate's third worker " + wrong, Check.INDEX, ExchangeTest::held,
                    y -> y.rotate(0, 0, 0, 1, wrong, 2));
        }
        for (int wrong : new int[] {-1, 4, Integer.MIN_VALUE, Integer.MAX_VALUE}) {
            Check.refuses("rotate's first shift " + wrong, Check.INDEX, ExchangeTest::held,
                    y -> y.rotate(0, wrong, 1, 1, 2, 2));
            Check.refuses("rotate's second shift " + wrong, Check.INDEX, ExchangeTest::held,
                    y -> y.rotate(0, 0, 1, wrong, 2, 2));
            Check.refuses("rotate's third shift " + wrong, Check.INDEX, ExchangeTest::held,
                    y -> y.rotate(0, 0, 1, 1, 1, wrong));
        }
        Check.refuses("rotate, first and second the same", Check.ARGUMENT, ExchangeTest::held,
                y -> y.rotate(2, 2, 2, 3, 1, 1));
        Check.refuses("rotate, second and third the same", Check.ARGUMENT, ExchangeTest::held,
                y -> y.rotate(1, 1, 2, 2, 2, 3));
        Check.refuses("rotate, first and third the same", Check.ARGUMENT, ExchangeTest::held,
                y -> y.rotate(2, 2, 1, 1, 2, 3));
        Check.refuses("rotate, two the same and nothing held", Check.ARGUMENT, ExchangeTest::held,
                y -> y.rotate(1, 3, 1, 3, 0, 3));
        Check.refuses("rotate, the first shift not held", Check.ELEMENT, ExchangeTest::held,
                y -> y.rotate(0, 1, 1, 1, 2, 2));
        Check.refuses("rotate, the second shift not held", Check.ELEMENT, ExchangeTest::held,
                y -> y.rotate(0, 0, 1, 2, 2, 2));
        Check.refuses("rotate, the third shift not held", Check.ELEMENT, ExchangeTest::held,
                y -> y.rotate(0, 0, 1, 1, 2, 0));
        Check.refuses("rotate, a shift not held, and an obstacle", Check.ELEMENT, ExchangeTest::limited,
                y -> y.rotate(0, 0, 3, 6, 1, 1));
    }

    private static String partnerOf(ShiftMarket x, int worker, int shift) {
        return Check.row(x.partner(worker, shift, 0), x.partner(worker, shift, 1));
    }

    private static void partner() {
        ShiftMarket x = held();
        Check.equal("the only partners", "1 0 2 0 2 1 0 1", partnerOf(x, 0, 1) + " " + partnerOf(x, 0, 3) + " "
                + partnerOf(x, 1, 2) + " " + partnerOf(x, 1, 0));
        Check.equal("the lowest shift given", "0 2", partnerOf(x, 2, 0));
        x.award(1, 0);
        Check.equal("the lowest partner", "0 2", partnerOf(x, 2, 0));
        Check.equal("partner changes nothing", "0:0 2:2 1:1 2:3 1:0", Check.awardsOf(x));
        ShiftMarket same = heldByTwo();
        Check.equal("the same shift", "1 1 0 1", partnerOf(same, 0, 1) + " " + partnerOf(same, 1, 1));
        Check.thrownBy(same, y -> y.award(2, 1));
        Check.equal("an exchange after it", "1 1", partnerOf(same, 0, 1));
        Check.equal("partner leaves the reason", "3 2 2", Check.reasonOf(same));
        Check.equal("obstacle 3 is left out, and 4 is not", "0 5", partnerOf(limited(), 3, 0));
    }

    private static void partnerWithObstacles() {
        ShiftMarket x = new ShiftMarket();
        x.addWorker(0, 0, 168, 28, 1);
        x.addWorker(0, 0, 168, 28, 3);
        x.addWorker(0, 0, 168, 28, 15);
        x.addShift(0, 8, 4, 0, 2);
        x.addShift(1, 8, 4, 2, 1);
        x.addShift(2, 8, 4, 1, 1);
        x.addShift(3, 8, 4, 0, 1);
        x.addShift(0, 10, 4, 1, 1);
        x.award(0, 0);
        x.award(1, 0);
        x.award(2, 1);
        x.award(2, 2);
        x.award(2, 3);
        Check.equal("the lowest partner counts before the lowest shift", "0 3", partnerOf(x, 2, 0));
        x.revoke(2, 3);
        Check.equal("the lowest partner without an obstacle", "1 2", partnerOf(x, 2, 0));
        x.award(2, 4);
        Check.equal("the shift given that is in the way of the one gotten", "1 4", partnerOf(x, 2, 0));
        x.revoke(2, 4);
        x.revoke(2, 2);
        Check.equal("no partner has the skill", "NoSuchElementException",
                Check.thrownBy(x, y -> y.partner(2, 0, 0)));
    }

    private static void partnerExceptions() {
        for (int wrong : new int[] {-1, 3, Integer.MIN_VALUE, Integer.MAX_VALUE}) {
            Check.refuses("partner of worker " + wrong, Check.INDEX, ExchangeTest::held, y -> y.partner(wrong, 1, 2));
        }
        for (int wrong : new int[] {-1, 4, Integer.MIN_VALUE, Integer.MAX_VALUE}) {
            Check.refuses("partner for shift " + wrong, Check.INDEX, ExchangeTest::held, y -> y.partner(0, wrong, 2));
        }
        for (int wrong : new int[] {-1, 2, Integer.MIN_VALUE, Integer.MAX_VALUE}) {
            Check.refuses("partner's part " + wrong, Check.ARGUMENT, ExchangeTest::held, y -> y.partner(0, 1, wrong));
            Check.refuses("partner's part " + wrong + " without one", Check.ARGUMENT, Check::free,
                    y -> y.partner(0, 1, wrong));
        }
        Check.refuses("partner with nothing to give", Check.ELEMENT, ExchangeTest::heldByNone, y -> y.partner(0, 1, 1));
        Check.refuses("partner for what nobody holds", Check.ELEMENT, ExchangeTest::heldByNone,
                y -> y.partner(1, 2, 0));
        Check.refuses("no exchange with oneself", Check.ELEMENT, ExchangeTest::held, y -> y.partner(0, 0, 0));
    }

    private static ShiftMarket heldByNone() {
        ShiftMarket x = Check.free();
        x.award(1, 1);
        return x;
    }
}
