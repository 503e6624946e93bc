/** Promises 26 to 31: what workers hold, who holds a shift, hours, days, rest and points. */
public final class HoldingTest {
    public static void main(String[] args) {
        heldAndHolders();
        hours();
        daysInRow();
        shortestRest();
        points();
        wrongInputs();
        Check.end("HoldingTest");
    }

    private static ShiftMarket withShifts(int[]... shifts) {
        ShiftMarket x = new ShiftMarket();
        x.addWorker(0, 0, 168, 28, 1);
        x.addWorker(0, 0, 168, 28, 1);
        for (int[] shift : shifts) {
            x.addShift(shift[0], shift[1], shift[2], 0, 2);
        }
        return x;
    }

    private static int[] at(int day, int hour, int length) {
        return new int[] {day, hour, length};
    }

    private static void heldAndHolders() {
        ShiftMarket x = Check.full();
        Check.equal("nothing is held", "0 0", Check.row(x.held(9), x.holders(15)));
        x.award(9, 15);
        x.award(0, 15);
        x.award(9, 0);
        x.award(9, 7);
        Check.equal("what is held", "32768 32897 0", Check.row(x.held(0), x.held(9), x.held(1)));
        Check.equal("the holders", "513 512 0", Check.row(x.holders(15), x.holders(7), x.holders(1)));
        x.revoke(9, 15);
        Check.equal("after a revocation", "129 1", Check.row(x.held(9), x.holders(15)));
    }

    private static String hoursOf(ShiftMarket x, int worker) {
        return Check.row(x.hours(worker, -1), x.hours(worker, 0), x.hours(worker, 1), x.hours(worker, 2),
                x.hours(worker, 3));
    }

    private static void hours() {
        ShiftMarket x = withShifts(at(0, 0, 1), at(6, 23, 12), at(7, 12, 3), at(13, 0, 4), at(20, 0, 5), at(21, 0, 6),
                at(27, 23, 12), at(14, 0, 7));
        Check.equal("no hours", "0 0 0 0 0", hoursOf(x, 0));
        for (int shift = 0; shift < 7; shift++) {
            x.award(0, shift);
        }
        x.award(1, 7);
        Check.equal("the hours", "43 13 7 5 18", hoursOf(x, 0));
        Check.equal("another worker's hours", "7 0 0 7 0", hoursOf(x, 1));
        for (int wrong : new int[] {-2, 4, Integer.MIN_VALUE, Integer.MAX_VALUE}) {
            Check.refuses("hours in week " + wrong, Check.ARGUMENT, Check::free, y -> y.hours(0, wrong));
            Check.refuses("hours in week " + wrong + " of no worker", Check.INDEX, Check::free,
                    y -> y.hours(3, wrong));
        }
    }

    private static void daysInRow() {
        ShiftMarket x = withShifts(at(27, 0, 1), at(5, 0, 1), at(6, 0, 1), at(7, 0, 1), at(7, 9, 1), at(25, 0, 1),
                at(26, 0, 1), at(24, 0, 1), at(0, 23, 12), at(2, 0, 1), at(8, 0, 1));
        Check.equal("no days", 0, x.daysInRow(0));
        int[] due = {1, 1, 2, 3, 3, 3, 3, 4, 4, 4, 4};
        for (int shift = 0; shift < due.length; shift++) {
            x.award(0, shift);
            Check.equal("days in a row with shift " + shift, due[shift], x.daysInRow(0));
        }
        x.revoke(0, 6);
        Check.equal("days in a row over two weeks", 4, x.daysInRow(0));
        x.revoke(0, 3);
        Check.equal("the other shift of the day is left", 4, x.daysInRow(0));
        x.revoke(0, 4);
        Check.equal("a day between", 2, x.daysInRow(0));
        Check.equal("another worker's days", 0, x.daysInRow(1));
        ShiftMarket first = withShifts(at(0, 0, 1), at(1, 0, 1), at(26, 0, 1), at(27, 0, 1));
        first.award(0, 0);
        first.award(1, 3);
        Check.equal("the first day, the last day", "1 1", Check.row(first.daysInRow(0), first.daysInRow(1)));
        first.award(0, 1);
        first.award(1, 2);
        Check.equal("the first days, the last days", "2 2", Check.row(first.daysInRow(0), first.daysInRow(1)));
    }

    private static void shortestRest() {
        ShiftMarket x = withShifts(at(9, 0, 2), at(3, 23, 12), at(1, 0, 10), at(4, 20, 3), at(9, 2, 1), at(0, 0, 1));
        x.award(0, 0);
        Check.equal("one shift", "NoSuchElementException", Check.thrownBy(x, y -> y.shortestRest(0)));
        x.award(0, 1);
        Check.equal("two shifts", 109, x.shortestRest(0));
        x.award(0, 2);
        Check.equal("three shifts, the new one first", 61, x.shortestRest(0));
        x.award(0, 3);
        Check.equal("a night between", 9, x.shortestRest(0));
        x.award(0, 4);
        Check.equal("no hour between", 0, x.shortestRest(0));
        x.award(1, 5);
        Check.refuses("shortestRest with no shift", Check.ELEMENT, Check::free, y -> y.shortestRest(0));
        Check.equal("another worker's one shift", "NoSuchElementException",
                Check.thrownBy(x, y -> y.shortestRest(1)));
    }

    private static void points() {
        ShiftMarket x = Check.full();
        Check.equal("no points", 0, x.points(3));
        x.setBid(3, 0, 9);
        x.setBid(3, 15, 8);
        x.setBid(3, 4, 5);
        x.setBid(4, 4, 3);
        x.award(3, 15);
        x.award(3, 0);
        x.award(3, 7);
        x.award(4, 0);
        Check.equal("points for what is held", "17 0", Check.row(x.points(3), x.points(4)));
        x.setBid(3, 15, 2);
        x.setBid(3, 0, 0);
        x.setBid(4, 0, 4);
        Check.equal("points after other bids", "2 4", Check.row(x.points(3), x.points(4)));
    }

    private static void wrongInputs() {
        for (int wrong : new int[] {-1, 3, Integer.MIN_VALUE, Integer.MAX_VALUE}) {
            Check.refuses("held of worker " + wrong, Check.INDEX, Check::free, y -> y.held(wrong));
            Check.refuses("hours of worker " + wrong, Check.INDEX, Check::free, y -> y.hours(wrong, 0));
            Check.refuses("daysInRow of worker " + wrong, Check.INDEX, Check::free, y -> y.daysInRow(wrong));
            Check.refuses("shortestRest of worker " + wrong, Check.INDEX, Check::free, y -> y.shortestRest(wrong));
            Check.refuses("points of worker " + wrong, Check.INDEX, Check::free, y -> y.points(wrong));
        }
        for (int wrong : new int[] {-1, 4, Integer.MIN_VALUE, Integer.MAX_VALUE}) {
            Check.refuses("holders of shift " + wrong, Check.INDEX, Check::free, y -> y.holders(wrong));
        }
    }
}
