import java.util.ArrayList;
import java.util.List;

/** Promises 40 to 42: undo, save and restore. */
public final class ChangeTest {
    public static void main(String[] args) {
        undoOfEachChange();
        atMostEight();
        whatIsNoChange();
        changesAfterUndo();
        saveAndRestore();
        restoreIsAChange();
        wrongInputs();
        Check.end("ChangeTest");
    }

    /** A market in which each kind of change is possible and makes a difference. */
    private static ShiftMarket market() {
        ShiftMarket x = Check.free();
        x.setBid(0, 3, 5);
        x.setBid(1, 3, 5);
        x.award(0, 0);
        x.award(1, 1);
        x.award(2, 2);
        x.save();
        x.setGuarantee(2, 1);
        return x;
    }

    private static void undone(String what, Check.Act change) {
        ShiftMarket x = market();
        String before = Check.stateOf(x);
        change.on(x);
        Check.equal(what + " makes a difference", false, before.equals(Check.stateOf(x)));
        Check.equal("undo of " + what, "7 " + before, x.undo() + " " + Check.stateOf(x));
        for (int count = 6; count >= 0; count--) {
            Check.equal("undo after undo of " + what, count, x.undo());
        }
        Check.equal("undo of too much", "IllegalStateException", Check.thrownBy(x, ShiftMarket::undo));
    }

    private static void undoOfEachChange() {
        undone("addWorker", x -> x.addWorker(1, 1, 1, 1, 1));
        undone("addShift", x -> x.addShift(1, 1, 1, 1, 1));
        undone("setBid", x -> x.setBid(0, 0, 9));
        undone("a bid taken back", x -> x.setBid(0, 3, 0));
        undone("award", x -> x.award(2, 1));
        undone("revoke", x -> x.revoke(1, 1));
        undone("setGuarantee", x -> x.setGuarantee(2, 0));
        undone("round", ShiftMarket::round);
        undone("runAll", ShiftMarket::runAll);
        undone("exchange", x -> x.exchange(0, 0, 1, 1));
        undone("rotate", x -> x.rotate(0, 0, 1, 1, 2, 2));
        undone("restore", ShiftMarket::restore);
        undone("addItems", x -> {
            Check.append(x, "w1,1,1,1,1;s1,1,1,1,1;b0,0,9");
            x.addItems();
        });
    }

    private static void atMostEight() {
        ShiftMarket x = Check.free();
        List<String> states = new ArrayList<>();
        for (int count = 0; count < 30; count++) {
            states.add(Check.stateOf(x));
            x.setBid(count % 3, count / 3 % 4, 1 + count % 9);
            for (int back = 0; count % 5 == 4 && back < 2; back++) {
                x.undo();
                Check.equal("the state before change " + (states.size() - 1), states.remove(states.size() - 1),
                        Check.stateOf(x));
            }
        }
        for (int left = 5; left >= 0; left--) {
            Check.equal("undo", left + " " + states.remove(states.size() - 1), x.undo() + " " + Check.stateOf(x));
        }
        Check.equal("older changes are forgotten", "IllegalStateException", Check.thrownBy(x, ShiftMarket::undo));
        Check.equal("a change that is forgotten stays", true, states.size() > 1);
    }

    private static void whatIsNoChange() {
        ShiftMarket x = new ShiftMarket();
        x.addWorker(0, 0, 168, 28, 1);
        x.addShift(0, 0, 1, 0, 1);
        x.save();
        Check.append(x, "b0,0,1;!");
        Check.thrownBy(x, ShiftMarket::addItems);
        Check.append(x, "b0,0,1;b0,0,10");
        Check.thrownBy(x, ShiftMarket::addItems);
        Check.thrownBy(x, y -> y.addWorker(100, 0, 1, 1, 0));
        Check.thrownBy(x, y -> y.addShift(0, 0, 0, 0, 1));
        Check.thrownBy(x, y -> y.setBid(0, 0, 10));
        Check.thrownBy(x, y -> y.award(0, 1));
        Check.thrownBy(x, y -> y.revoke(0, 0));
        Check.thrownBy(x, y -> y.setGuarantee(0, 1));
        Check.thrownBy(x, y -> y.exchange(0, 0, 0, 0));
        Check.thrownBy(x, y -> y.rotate(0, 0, 0, 0, 0, 0));
        Check.thrownBy(x, y -> y.nextChoice(0));
        Check.thrownBy(x, y -> y.partner(0, 0, 0));
        x.appendCharacter('w');
        x.obstacle(0, 0, 0);
        x.bestSet(0);
        x.isLegal();
        x.save();
        Check.equal("two changes alone", "1 0", Check.row(x.undo(), x.undo()));
        Check.refuses("undo of nothing", Check.STATE, ShiftMarket::new, ShiftMarket::undo);
    }

    private static void changesAfterUndo() {
        ShiftMarket x = Check.free();
        x.award(0, 0);
        x.undo();
        x.award(1, 1);
        Check.equal("a change in place of one taken back", "1:1 7 6",
                Check.awardsOf(x) + " " + Check.row(x.undo(), x.undo()));
        Check.equal("what was before both", "3 3", Check.row(x.workerCount(), x.shiftCount()));
        x.addShift(9, 9, 9, 0, 3);
        Check.equal("a shift in place of one taken back", "9 0 3", Check.row(x.shift(3, 0), x.shift(3, 3),
                x.shift(3, 4)));
    }

    private static void saveAndRestore() {
        ShiftMarket x = market();
        x.exchange(0, 0, 1, 1);
        String before = Check.stateOf(x);
        Check.equal("save answers the awards", 3, x.save());
        Check.equal("save leaves the state", before, Check.stateOf(x));
        x.addWorker(1, 1, 1, 1, 1);
        x.addShift(1, 1, 1, 1, 1);
        x.setBid(0, 3, 0);
        x.setBid(3, 4, 2);
        x.setGuarantee(2, 0);
        x.revoke(2, 2);
        x.runAll();
        Check.equal("restore", "3 " + before, x.restore() + " " + Check.stateOf(x));
        x.revoke(0, 1);
        Check.equal("it stays saved", "3 " + before, x.restore() + " " + Check.stateOf(x));
        x.revoke(0, 1);
        Check.equal("save once more", 2, x.save());
        x.runAll();
        Check.equal("restore of the later one", "2 1:0 2:2", x.restore() + " " + Check.awardsOf(x));
        ShiftMarket empty = new ShiftMarket();
        Check.equal("nothing to speak of", "0 0", Check.row(empty.save(), empty.addWorker(0, 0, 1, 1, 1)));
        Check.equal("restore of it", "0 0", Check.row(empty.restore(), empty.workerCount()));
    }

    private static void restoreIsAChange() {
        ShiftMarket x = new ShiftMarket();
        x.addWorker(0, 0, 168, 28, 1);
        x.addShift(0, 0, 1, 0, 1);
        x.save();
        x.award(0, 0);
        Check.equal("restore", 0, x.restore());
        Check.equal("undo of restore", "3 1", Check.row(x.undo(), x.awardCount()));
        Check.equal("undo of what was before", "2 0", Check.row(x.undo(), x.awardCount()));
        x.undo();
        x.undo();
        Check.equal("undo leaves what was saved", "0 0 1 1", Check.row(x.workerCount(), x.restore(),
                x.workerCount(), x.shiftCount()));
        Check.equal("undo of restore once more", "0 0 0", Check.row(x.undo(), x.workerCount(), x.shiftCount()));
        ShiftMarket later = Check.free();
        later.award(0, 0);
        later.save();
        later.undo();
        Check.equal("what was saved is not taken back", "0 1 1", Check.row(later.awardCount(), later.restore(),
                later.held(0)));
    }

    private static void wrongInputs() {
        Check.refuses("restore of nothing", Check.STATE, Check::free, ShiftMarket::restore);
        ShiftMarket x = Check.free();
        Check.thrownBy(x, ShiftMarket::restore);
        x.save();
        Check.equal("restore after it was refused", 0, x.restore());
    }
}
