import java.util.ArrayList;
import java.util.List;

/** The edges of promises 40 to 42: what can be taken back, and what is saved. */
final class ChangeEdges {
    private static final String[] NAMES = {"addItems", "addWorker", "addShift", "setBid", "award", "revoke",
        "setGuarantee", "round", "runAll", "exchange", "rotate", "restore"};
    /** One change of each kind, all of them possible in the market of manyChanges; each makes a difference there. */
    private static final Check.Act[] CHANGES = {ChangeEdges::addAnItem, x -> x.addWorker(1, 2, 3, 4, 5),
        x -> x.addShift(1, 2, 3, 1, 2), x -> x.setBid(2, 2, 9), x -> x.award(2, 1), x -> x.revoke(0, 0),
        x -> x.setGuarantee(1, 1), ShiftMarket::round, ShiftMarket::runAll, x -> x.exchange(0, 0, 1, 1),
        x -> x.rotate(0, 0, 1, 1, 2, 2), ShiftMarket::restore};

    private ChangeEdges() {
    }

    private static void addAnItem(ShiftMarket x) {
        Check.append(x, "b2,1,4");
        x.addItems();
    }

    /** Worker w holds shift w, of 0 to 2, and the workers 0 and 1 can get shift 3 in a round. */
    private static ShiftMarket manyChanges() {
        ShiftMarket x = Check.free();
        x.award(0, 0);
        x.save();
        x.award(1, 1);
        x.award(2, 2);
        x.setBid(0, 3, 5);
        x.setBid(1, 3, 4);
        return x;
    }

    /** As many changes of bids, each of which makes a difference; answers the states before them and after them. */
    private static List<String> makeChanges(ShiftMarket x, int count) {
        List<String> states = new ArrayList<>();
        for (int made = 0; made < count; made++) {
            states.add(Check.stateOf(x));
            x.setBid(made % 3, made / 3 % 4, x.bid(made % 3, made / 3 % 4) == 9 ? 1 : 9);
        }
        states.add(Check.stateOf(x));
        return states;
    }

    private static void undoes(String what, int left, String state, ShiftMarket x) {
        Check.equal(what, left + " " + state, x.undo() + " " + Check.stateOf(x));
    }

    private static void undoesNothing(String what, ShiftMarket x) {
        String state = Check.stateOf(x);
        Check.equal(what, "IllegalStateException " + state,
                Check.thrownBy(x, ShiftMarket::undo) + " " + Check.stateOf(x));
    }

    // ---- promise 40: undo

    static void promise40UndoNothing() {
        Edges.says("Throws IllegalStateException if there is none");
        Check.refuses("a new object", Check.STATE, ShiftMarket::new, ShiftMarket::undo);
        ShiftMarket x = new ShiftMarket();
        x.addWorker(0, 0, 1, 1, 0);
        Check.equal("the one change", "0 0", Check.row(x.undo(), x.workerCount()));
        undoesNothing("taken back before", x);
        undoesNothing("and once more", x);
        x.addWorker(0, 0, 1, 1, 0);
        Check.equal("a change after it", "0 0", Check.row(x.undo(), x.workerCount()));
    }

    static void promise40UndoAtMostEight() {
        Edges.says("At most 8 of them can be taken back by undo; older ones are forgotten.");
        for (int made = 1; made <= 30; made++) {
            ShiftMarket x = new ShiftMarket();
            List<String> states = makeWorkers(x, made);
            int kept = Math.min(made, 8);
            for (int left = kept - 1; left >= 0; left--) {
                undoes("of " + made, left, states.get(made - kept + left), x);
            }
            undoesNothing("the last one that is kept of " + made + ", and one more", x);
        }
    }

    /** Workers are added up to ten, and then changes of their bids are made. */
    private static List<String> makeWorkers(ShiftMarket x, int count) {
        List<String> states = new ArrayList<>();
        for (int made = 0; made < count; made++) {
            states.add(Check.stateOf(x));
            if (made == 0) {
                x.addShift(0, 0, 1, 0, 1);
            } else if (made <= 10) {
                x.addWorker(made, 0, 1, 1, 0);
            } else {
                x.setBid(made % 10, 0, 1 + made / 10);
            }
        }
        states.add(Check.stateOf(x));
        return states;
    }

    static void promise40UndoReturnsHowManyAreLeft() {
        Edges.says("Returns the number of changes that can still be taken back.");
        ShiftMarket x = Check.free();
        makeChanges(x, 9);
        Check.equal("down to 0", "7 6 5 4 3 2 1 0", Check.row(x.undo(), x.undo(), x.undo(), x.undo(), x.undo(),
                x.undo(), x.undo(), x.undo()));
        undoesNothing("the ninth", x);
    }

    static void promise40UndoAndChangesInTurn() {
        Edges.says("Takes back the latest change that was not taken back.");
        for (int back = 1; back <= 8; back++) {
            for (int again = 1; again <= 9; again++) {
                ShiftMarket x = Check.free();
                List<String> states = makeChanges(x, 12);
                for (int count = 1; count <= back; count++) {
                    undoes("first", 8 - count, states.remove(states.size() - 2), x);
                }
                states.remove(states.size() - 1);
                states.addAll(makeChanges(x, again));
                int kept = Math.min(8 - back + again, 8);
                for (int left = kept - 1; left >= 0; left--) {
                    undoes(back + " back and " + again + " again", left, states.remove(states.size() - 2), x);
                }
                undoesNothing(back + " back and " + again + " again, and one more", x);
            }
        }
    }

    static void promise40UndoEachKindOfChange() {
        Edges.says("The changes are the successful calls of addItems, addWorker, addShift, setBid, award, revoke,"
                + " setGuarantee, round, runAll, exchange, rotate and restore.");
        for (int kind = 0; kind < NAMES.length; kind++) {
            ShiftMarket x = manyChanges();
            String before = Check.stateOf(x);
            CHANGES[kind].on(x);
            Check.equal(NAMES[kind] + " makes a difference", false, before.equals(Check.stateOf(x)));
            List<String> states = makeChanges(x, 7);
            for (int left = 7; left > 0; left--) {
                undoes("before " + NAMES[kind], left, states.get(left - 1), x);
            }
            undoes(NAMES[kind] + ", as the last that can be taken back", 0, before, x);
            undoesNothing("after " + NAMES[kind], x);
        }
    }

    static void promise40UndoForgetsEachKindOfChange() {
        Edges.says("older ones are forgotten");
        for (int kind = 0; kind < NAMES.length; kind++) {
            ShiftMarket x = manyChanges();
            CHANGES[kind].on(x);
            List<String> states = makeChanges(x, 8);
            for (int left = 7; left >= 0; left--) {
                undoes("before " + NAMES[kind], left, states.get(left), x);
            }
            undoesNothing(NAMES[kind] + ", the first that is forgotten", x);
        }
    }

    static void promise40UndoOfChangesWithoutDifference() {
        Edges.says("They are changes also if nothing is different afterwards.");
        Check.Act[] acts = {x -> x.setBid(0, 3, 5), x -> x.setBid(2, 0, 0), x -> x.setGuarantee(0, 2),
            x -> x.setGuarantee(3, 0), ShiftMarket::round, ShiftMarket::runAll, ShiftMarket::restore,
            ChangeEdges::addTheSameBid};
        for (int index = 0; index < acts.length; index++) {
            ShiftMarket x = Check.busy();
            x.addItems();
            x.runAll();
            x.save();
            String state = Check.stateOf(x);
            for (int count = 0; count < 8; count++) {
                acts[index].on(x);
            }
            Check.equal("nothing is different after act " + index, state, Check.stateOf(x));
            for (int left = 7; left >= 0; left--) {
                undoes("act " + index, left, state, x);
            }
            undoesNothing("act " + index + ", one more", x);
        }
    }

    private static void addTheSameBid(ShiftMarket x) {
        Check.append(x, "b0,3,5");
        x.addItems();
    }

    static void promise40UndoOfAnEmptyMarketsRounds() {
        Edges.says("They are changes also if nothing is different afterwards.");
        ShiftMarket x = new ShiftMarket();
        x.round();
        x.runAll();
        x.save();
        x.restore();
        Check.equal("round, runAll and restore", "2 1 0", Check.row(x.undo(), x.undo(), x.undo()));
        undoesNothing("one more", x);
    }

    static void promise40UndoLeavesTheReason() {
        Edges.says("Other exceptions, undo and restore leave the reason as it is.");
        ShiftMarket x = manyChanges();
        x.award(0, 1);
        Check.thrownBy(x, y -> y.award(2, 1));
        x.undo();
        Check.equal("of an award", "3 2 2", Check.reasonOf(x));
        x.restore();
        x.undo();
        Check.thrownBy(x, ShiftMarket::undo);
        Check.equal("of a restore", "3 2 2", Check.reasonOf(x));
    }

    static void promise40UndoIsNotForWhatIsNoChange() {
        Edges.says("The changes are the successful calls of");
        ShiftMarket x = Check.busy();
        for (int count = 0; count < 8; count++) {
            x.setGuarantee(0, 2);
        }
        String state = Check.stateOf(x);
        Check.append(x, ";");
        x.save();
        Check.thrownBy(x, y -> y.addWorker(100, 0, 1, 1, 0));
        Check.thrownBy(x, y -> y.addShift(28, 0, 1, 0, 1));
        Check.thrownBy(x, y -> y.setBid(0, 0, 10));
        Check.thrownBy(x, ShiftMarket::addItems);
        Check.append(x, "b0,0,10");
        Check.thrownBy(x, ShiftMarket::addItems);
        Check.thrownBy(x, y -> y.award(0, 0));
        Check.thrownBy(x, y -> y.revoke(0, 0));
        Check.thrownBy(x, y -> y.setGuarantee(3, 1));
        Check.thrownBy(x, y -> y.exchange(0, 0, 1, 1));
        Check.thrownBy(x, y -> y.rotate(0, 0, 1, 1, 2, 2));
        x.partner(0, 0, 0);
        x.nextChoice(0);
        x.bestSet(0);
        for (int left = 7; left >= 0; left--) {
            undoes("the eight changes", left, state, x);
        }
        undoesNothing("one more", x);
    }

    // ---- promises 41 and 42: save and restore

    static void promise41SaveReturnsTheAwards() {
        Edges.says("Returns the number of awards.");
        ShiftMarket x = Check.full();
        Check.equal("none", "0 0", Check.row(new ShiftMarket().save(), x.save()));
        for (int index = 0; index < 48; index++) {
            x.award(index % 3, index / 3);
        }
        Check.equal("all", "48 48", Check.row(x.save(), x.restore()));
    }

    static void promise41SaveAFullMarket() {
        Edges.says("Saves everything but the text and its fault position, the failed item, the reason and what can be"
                + " taken back, in place of what was saved before.");
        ShiftMarket x = Check.full();
        for (int index = 0; index < 48; index++) {
            x.award((index + index / 3) % 10, index / 3);
            x.setBid(index % 10, index / 6, 1 + index % 9);
        }
        for (int shift = 0; shift < 16; shift++) {
            x.setGuarantee(shift, 3);
        }
        String state = Check.stateOf(x);
        x.save();
        for (int count = 0; count < 8; count++) {
            x.setGuarantee(15 - count, 0);
            x.revoke(x.awardAt(47 - 3 * count, 0), 15 - count);
            x.setBid(count, 0, 0);
        }
        Check.equal("a difference", false, state.equals(Check.stateOf(x)));
        Check.equal("restored", "48 " + state, x.restore() + " " + Check.stateOf(x));
    }

    static void promise41SaveLeavesTheRest() {
        Edges.says("Saves everything but the text and its fault position, the failed item, the reason and what can be"
                + " taken back");
        ShiftMarket x = manyChanges();
        x.save();
        Check.append(x, "b0,0,1;!");
        Check.thrownBy(x, ShiftMarket::addItems);
        Check.append(x, "b0,0");
        Check.thrownBy(x, y -> y.award(0, 0));
        x.setBid(2, 2, 2);
        x.restore();
        Check.equal("fault and failure", "7 -1", Check.readingOf(x));
        Check.equal("the reason", "1 0 0", Check.reasonOf(x));
        Check.equal("the text", 5, x.appendCharacter(','));
        Check.equal("what can be taken back", "7 2 6 0", Check.row(x.undo(), x.bid(2, 2), x.undo(), x.bid(2, 2)));
        Check.append(x, "9;b9,9,9");
        Check.thrownBy(x, ShiftMarket::addItems);
        x.restore();
        Check.equal("the failure", "-1 1", Check.readingOf(x));
    }

    static void promise41SaveInPlaceOfWhatWasSaved() {
        Edges.says("in place of what was saved before");
        ShiftMarket x = Check.full();
        x.save();
        x.award(9, 15);
        x.save();
        x.award(0, 0);
        Check.equal("the second", "1 9:15", x.restore() + " " + Check.awardsOf(x));
        x.undo();
        x.undo();
        x.undo();
        Check.equal("the third", "0 0", Check.row(x.save(), x.restore()));
        Check.equal("an empty market", "0 0", savedEmpty(x));
    }

    private static String savedEmpty(ShiftMarket other) {
        ShiftMarket x = new ShiftMarket();
        x.save();
        x.addWorker(0, 0, 1, 1, 0);
        x.addShift(0, 0, 1, 0, 1);
        x.restore();
        Check.equal("another object", "10 16", Check.row(other.workerCount(), other.shiftCount()));
        return Check.row(x.workerCount(), x.shiftCount());
    }

    static void promise42RestoreNothing() {
        Edges.says("Throws IllegalStateException if nothing was saved");
        Check.refuses("a new object", Check.STATE, ShiftMarket::new, ShiftMarket::restore);
        Check.refuses("a market", Check.STATE, Check::free, ShiftMarket::restore);
        ShiftMarket x = Check.free();
        x.undo();
        Check.equal("after undo", "IllegalStateException", Check.thrownBy(x, ShiftMarket::restore));
        x.save();
        Check.equal("after save", 0, x.restore());
    }

    static void promise42RestoreStaysSaved() {
        Edges.says("Restores what was saved last. It stays saved.");
        ShiftMarket x = manyChanges();
        String saved = Check.stateOf(x);
        x.save();
        for (int count = 1; count <= 20; count++) {
            x.setBid(2, count % 4, 1 + count % 9);
            x.exchange(0, 0, 1, 1);
            Check.equal("time " + count, "3 " + saved, x.restore() + " " + Check.stateOf(x));
        }
        x.undo();
        x.undo();
        x.undo();
        Check.equal("after undo", "3 " + saved, x.restore() + " " + Check.stateOf(x));
    }

    static void promise42RestoreReturnsTheAwards() {
        Edges.says("Returns the number of awards.");
        ShiftMarket x = Check.full();
        x.save();
        x.award(9, 15);
        Check.equal("none", "0 0", Check.row(x.restore(), x.awardCount()));
        x.undo();
        Check.equal("one", "1 1", Check.row(x.save(), x.restore()));
    }
}
