/** Promises 32 and 33: the best set and its points. */
public final class BestSetTest {
    public static void main(String[] args) {
        withoutBids();
        greatestSum();
        eachObstacle();
        leastOfSeveral();
        awardsDoNotMatter();
        wrongInputs();
        Check.end("BestSetTest");
    }

    private static String best(ShiftMarket x) {
        return Check.row(x.bestSet(0), x.bestPoints(0));
    }

    /** A worker of the skills 0 and 2 who bids for all the shifts, each of them with day, hour, length, points. */
    private static ShiftMarket market(int rest, int hours, int days, int[]... shifts) {
        ShiftMarket x = new ShiftMarket();
        x.addWorker(0, rest, hours, days, 5);
        for (int index = 0; index < shifts.length; index++) {
            x.addShift(shifts[index][0], shifts[index][1], shifts[index][2], 0, 1);
            x.setBid(0, index, shifts[index][3]);
        }
        return x;
    }

    private static int[] at(int day, int hour, int length, int points) {
        return new int[] {day, hour, length, points};
    }

    private static void withoutBids() {
        Check.equal("no bids", "0 0", best(Check.free()));
        ShiftMarket x = new ShiftMarket();
        x.addWorker(0, 0, 168, 28, 0);
        x.addShift(0, 0, 1, 0, 1);
        x.setBid(0, 0, 9);
        Check.equal("no skill", "0 0", best(x));
        Check.equal("no hours for any", "0 0", best(market(0, 3, 28, at(0, 0, 4, 9), at(9, 0, 12, 9))));
    }

    private static void greatestSum() {
        Check.equal("one point", "1 1", best(market(0, 168, 28, at(0, 0, 4, 1))));
        Check.equal("one point each", "3 2", best(market(0, 168, 28, at(0, 0, 4, 1), at(1, 0, 4, 1))));
        ShiftMarket x = Check.full();
        for (int shift = 0; shift < 8; shift++) {
            x.setBid(0, 15 - 2 * shift, 9);
        }
        Check.equal("all that is bid for", "43690 72", best(x));
        x.setBid(0, 15, 0);
        Check.equal("without the highest", "10922 63", best(x));
        Check.equal("two together are better than the best one", "5 10",
                best(market(0, 168, 28, at(0, 0, 4, 5), at(0, 3, 6, 9), at(0, 8, 4, 5))));
        Check.equal("the best one is better than two together", "2 9",
                best(market(0, 168, 28, at(0, 0, 4, 4), at(0, 3, 6, 9), at(0, 8, 4, 4))));
    }

    private static void eachObstacle() {
        ShiftMarket skills = market(0, 168, 28, at(0, 0, 1, 3));
        for (int skill = 1; skill < 4; skill++) {
            skills.addShift(skill, 0, 1, skill, 1);
            skills.setBid(0, skill, 9);
        }
        Check.equal("skills", "5 12", best(skills));
        Check.equal("an overlap", "2 4", best(market(0, 168, 28, at(0, 0, 4, 3), at(0, 3, 4, 4))));
        Check.equal("no overlap", "3 7", best(market(0, 168, 28, at(0, 0, 4, 3), at(0, 4, 4, 4))));
        Check.equal("too little rest", "2 4", best(market(8, 168, 28, at(0, 0, 4, 3), at(0, 11, 4, 4))));
        Check.equal("enough rest", "3 7", best(market(8, 168, 28, at(0, 0, 4, 3), at(0, 12, 4, 4))));
        Check.equal("too many hours", "2 4", best(market(0, 7, 28, at(0, 0, 4, 3), at(6, 0, 4, 4))));
        Check.equal("enough hours", "3 7", best(market(0, 8, 28, at(0, 0, 4, 3), at(6, 0, 4, 4))));
        Check.equal("hours of two weeks", "3 7", best(market(0, 4, 28, at(6, 0, 4, 3), at(7, 0, 4, 4))));
        Check.equal("too many days", "6 9",
                best(market(0, 168, 2, at(3, 0, 1, 3), at(4, 0, 1, 4), at(5, 0, 1, 5))));
        Check.equal("a day between", "5 8", best(market(0, 168, 1, at(3, 0, 1, 3), at(4, 0, 1, 4), at(5, 0, 1, 5))));
        Check.equal("enough days", "7 12", best(market(0, 168, 3, at(3, 0, 1, 3), at(4, 0, 1, 4), at(5, 0, 1, 5))));
        // Too many days for the middle shift alone are too many for the set.
        Check.equal("days on both sides", "30 17", best(market(0, 168, 4, at(3, 0, 1, 3), at(4, 0, 1, 4),
                at(5, 0, 1, 5), at(6, 0, 1, 4), at(7, 0, 1, 4))));
    }

    private static void leastOfSeveral() {
        Check.equal("one of two alike", "1 4", best(market(0, 168, 28, at(0, 0, 4, 4), at(0, 3, 4, 4))));
        Check.equal("one with many points, or two lower ones", "3 8",
                best(market(0, 168, 28, at(0, 0, 4, 4), at(0, 4, 4, 4), at(0, 0, 8, 8))));
        Check.equal("two higher ones, or one with many points", "1 8",
                best(market(0, 168, 28, at(0, 0, 8, 8), at(0, 0, 4, 4), at(0, 4, 4, 4))));
        Check.equal("the least int, not the fewest", "6 8",
                best(market(0, 10, 28, at(0, 0, 12, 9), at(1, 0, 5, 4), at(2, 0, 5, 4), at(3, 0, 10, 8))));
        Check.equal("the least int, not the lowest shift", "6 8",
                best(market(0, 10, 28, at(0, 0, 4, 1), at(1, 0, 5, 4), at(2, 0, 5, 4), at(3, 0, 6, 7))));
    }

    private static void awardsDoNotMatter() {
        ShiftMarket x = market(8, 10, 2, at(0, 0, 5, 5), at(1, 0, 5, 5), at(1, 4, 5, 4));
        x.addWorker(0, 0, 168, 28, 15);
        Check.equal("before awards", "3 10 0 0", best(x) + " " + Check.row(x.bestSet(1), x.bestPoints(1)));
        x.award(1, 0);
        x.award(0, 2);
        Check.thrownBy(x, y -> y.award(0, 0));
        String before = Check.stateOf(x);
        Check.equal("after awards", "3 10 0 0", best(x) + " " + Check.row(x.bestSet(1), x.bestPoints(1)));
        Check.equal("nothing is changed by it", before + " 3 1 0", Check.stateOf(x) + " " + Check.reasonOf(x));
    }

    private static void wrongInputs() {
        for (int wrong : new int[] {-1, 3, Integer.MIN_VALUE, Integer.MAX_VALUE}) {
            Check.refuses("bestSet of worker " + wrong, Check.INDEX, Check::free, y -> y.bestSet(wrong));
            Check.refuses("bestPoints of worker " + wrong, Check.INDEX, Check::free, y -> y.bestPoints(wrong));
        }
    }
}
