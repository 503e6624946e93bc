/** Promises 16 to 19: awards, revocations, guarantees and the reason. */
public final class AwardTest {
    public static void main(String[] args) {
        award();
        revoke();
        setGuarantee();
        reason();
        reasonStays();
        Check.end("AwardTest");
    }

    /** Worker 0 holds the shifts 1 and 2, worker 1 shift 1, whose guarantee is 2. */
    private static ShiftMarket someHeld() {
        ShiftMarket x = Check.free();
        x.award(0, 1);
        x.award(1, 1);
        x.award(0, 2);
        x.setGuarantee(1, 2);
        return x;
    }

    private static void award() {
        ShiftMarket x = Check.free();
        x.setBid(0, 3, 5);
        Check.equal("coverages", "1 2 1 1", Check.row(x.award(0, 3), x.award(2, 3), x.award(2, 0), x.award(1, 1)));
        Check.equal("the awards", "0:3 2:3 2:0 1:1", Check.awardsOf(x));
        Check.equal("what is held", "8 2 9", Check.row(x.held(0), x.held(1), x.held(2)));
        Check.equal("bids stay", "5 1", Check.row(x.bid(0, 3), x.worker(0, 5)));
        Check.equal("award is a change", "7 0:3 2:3 2:0", x.undo() + " " + Check.awardsOf(x));
        for (int wrong : new int[] {-1, 3, Integer.MIN_VALUE, Integer.MAX_VALUE}) {
            Check.refuses("award to worker " + wrong, Check.INDEX, AwardTest::someHeld, y -> y.award(wrong, 0));
        }
        for (int wrong : new int[] {-1, 4, Integer.MIN_VALUE, Integer.MAX_VALUE}) {
            Check.refuses("award of shift " + wrong, Check.INDEX, AwardTest::someHeld, y -> y.award(0, wrong));
        }
        Check.refuses("award of a held shift", Check.UNSUPPORTED, AwardTest::someHeld, y -> y.award(0, 1));
        Check.refuses("award of a covered shift", Check.UNSUPPORTED, AwardTest::someHeld, y -> y.award(2, 1));
    }

    private static void revoke() {
        ShiftMarket x = someHeld();
        x.award(2, 0);
        x.setGuarantee(1, 1);
        Check.equal("revoke", "1 2 1:1 0:2 2:0", Check.row(x.revoke(0, 1), x.holders(1)) + " " + Check.awardsOf(x));
        Check.equal("revoke of the last award", "0 1:1 0:2", x.revoke(2, 0) + " " + Check.awardsOf(x));
        Check.equal("revoke is a change", "7 1:1 0:2 2:0", x.undo() + " " + Check.awardsOf(x));
        Check.equal("a new award comes last", "2 1:1 0:2 2:0 2:1", x.award(2, 1) + " " + Check.awardsOf(x));
        for (int wrong : new int[] {-1, 3, Integer.MIN_VALUE, Integer.MAX_VALUE}) {
            Check.refuses("revoke of worker " + wrong, Check.INDEX, AwardTest::someHeld, y -> y.revoke(wrong, 1));
        }
        for (int wrong : new int[] {-1, 4, Integer.MIN_VALUE, Integer.MAX_VALUE}) {
            Check.refuses("revoke of shift " + wrong, Check.INDEX, AwardTest::someHeld, y -> y.revoke(0, wrong));
        }
        Check.refuses("revoke of what is not held", Check.ELEMENT, AwardTest::someHeld, y -> y.revoke(1, 2));
        Check.refuses("revoke of what another one holds, guaranteed", Check.ELEMENT, AwardTest::someHeld,
                y -> y.revoke(2, 1));
        Check.refuses("revoke below the guarantee", Check.UNSUPPORTED, AwardTest::someHeld, y -> y.revoke(1, 1));
    }

    private static void setGuarantee() {
        ShiftMarket x = someHeld();
        Check.equal("previous guarantees", "2 0 1 1 0", Check.row(x.setGuarantee(1, 0), x.setGuarantee(1, 1),
                x.setGuarantee(1, 1), x.setGuarantee(1, 0), x.setGuarantee(2, 1)));
        Check.equal("the guarantees", "0 0 1 0", Check.row(x.shift(0, 5), x.shift(1, 5), x.shift(2, 5),
                x.shift(3, 5)));
        Check.equal("setGuarantee is a change", "7 0", Check.row(x.undo(), x.shift(2, 5)));
        Check.equal("a guarantee of 0 without coverage", 0, x.setGuarantee(0, 0));
        for (int wrong : new int[] {-1, 4, Integer.MIN_VALUE, Integer.MAX_VALUE}) {
            Check.refuses("setGuarantee of shift " + wrong, Check.INDEX, AwardTest::someHeld,
                    y -> y.setGuarantee(wrong, 3));
        }
        for (int wrong : new int[] {-1, 3, Integer.MIN_VALUE, Integer.MAX_VALUE}) {
            Check.refuses("setGuarantee to " + wrong, Check.ARGUMENT, AwardTest::someHeld,
                    y -> y.setGuarantee(0, wrong));
        }
        Check.refuses("setGuarantee above no coverage", Check.STATE, AwardTest::someHeld, y -> y.setGuarantee(0, 1));
        Check.refuses("setGuarantee above the coverage", Check.STATE, AwardTest::someHeld, y -> y.setGuarantee(2, 2));
        ShiftMarket full = Check.full();
        full.award(0, 0);
        full.award(1, 0);
        full.award(2, 0);
        Check.equal("the highest guarantee", "0 3", Check.row(full.setGuarantee(0, 3), full.shift(0, 5)));
    }

    private static void reason() {
        ShiftMarket x = someHeld();
        Check.equal("the reason after an award", "0 0 -1", Check.reasonOf(x));
        Check.thrownBy(x, y -> y.award(0, 2));
        Check.equal("the reason of a held shift", "1 2 0", Check.reasonOf(x));
        Check.thrownBy(x, y -> y.award(2, 1));
        Check.equal("the reason of a covered shift", "3 2 2", Check.reasonOf(x));
        Check.thrownBy(x, y -> y.revoke(1, 1));
        Check.equal("the reason of a guarantee", "8 2 1", Check.reasonOf(x));
        Check.equal("a revocation that is possible", "0 0 0 -1", x.revoke(0, 2) + " " + Check.reasonOf(x));
        Check.thrownBy(x, y -> y.revoke(1, 1));
        x.award(2, 3);
        Check.equal("the reason after an award that is possible", "0 0 -1", Check.reasonOf(x));
        x.setGuarantee(1, 1);
        x.revoke(0, 1);
        Check.thrownBy(x, y -> y.revoke(1, 1));
        Check.equal("the reason of a guarantee of 1", "8 1 1", Check.reasonOf(x));
        for (int wrong : new int[] {-1, 3, Integer.MIN_VALUE, Integer.MAX_VALUE}) {
            Check.refuses("reason's part " + wrong, Check.ARGUMENT, AwardTest::someHeld, y -> y.reason(wrong));
        }
    }

    private static void reasonStays() {
        ShiftMarket x = someHeld();
        x.save();
        Check.thrownBy(x, y -> y.award(2, 1));
        Check.thrownBy(x, y -> y.award(3, 1));
        Check.thrownBy(x, y -> y.award(0, 4));
        Check.thrownBy(x, y -> y.revoke(-1, 1));
        Check.thrownBy(x, y -> y.revoke(1, 2));
        Check.thrownBy(x, y -> y.exchange(0, 1, 0, 2));
        Check.thrownBy(x, y -> y.exchange(0, 0, 1, 1));
        Check.thrownBy(x, y -> y.exchange(9, 0, 1, 1));
        Check.thrownBy(x, y -> y.rotate(0, 1, 1, 1, 0, 2));
        Check.thrownBy(x, y -> y.rotate(0, 1, 1, 1, 2, 2));
        Check.thrownBy(x, y -> y.rotate(0, 1, 1, 1, 2, 9));
        Check.equal("the reason after other exceptions", "3 2 2", Check.reasonOf(x));
        x.round();
        x.runAll();
        x.setBid(0, 0, 1);
        x.setGuarantee(1, 0);
        x.addWorker(0, 0, 1, 1, 0);
        Check.append(x, "b0,0,1");
        x.addItems();
        x.undo();
        x.restore();
        x.undo();
        x.save();
        Check.equal("the reason after other calls", "3 2 2", Check.reasonOf(x));
    }
}
