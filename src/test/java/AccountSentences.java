import java.lang.reflect.Field;
import java.lang.reflect.Method;

/** What promises 36 to 39 say of ordinary calls, a test for each sentence, and what isLegal answers to the rest. */
final class AccountSentences {
    private AccountSentences() {
    }

    private static int[] at(int day, int hour, int length) {
        return ObstacleTest.at(day, hour, length);
    }

    /**
     * No run of calls makes a market that is not legal, so that isLegal can be seen to answer false only if the
     * market is changed behind the calls.
     */
    private static void force(ShiftMarket x, String change, int first, int second) {
        try {
            Field field = ShiftMarket.class.getDeclaredField("market");
            field.setAccessible(true);
            Object market = field.get(x);
            Method method = market.getClass().getDeclaredMethod(change, int.class, int.class);
            method.setAccessible(true);
            method.invoke(market, first, second);
        } catch (ReflectiveOperationException e) {
            throw new IllegalStateException(e);
        }
    }

    /** Ten workers with these limits and skill 0, and two shifts that need two; nobody holds anything. */
    private static ShiftMarket limited(int rest, int hours, int days, int[] first, int[] second) {
        ShiftMarket x = new ShiftMarket();
        for (int worker = 0; worker < 10; worker++) {
            x.addWorker(0, rest, hours, days, 1);
        }
        x.addShift(first[0], first[1], first[2], 0, 2);
        x.addShift(second[0], second[1], second[2], 0, 2);
        return x;
    }

    /** The first worker, and the last one, holds both shifts. */
    private static void isLegalWithBoth(String what, boolean due, int rest, int hours, int days, int[] first,
            int[] second) {
        for (int worker = 0; worker < 10; worker += 9) {
            ShiftMarket x = limited(rest, hours, days, first, second);
            force(x, "enterAward", worker, 0);
            Check.equal(what + ", one alone", true, x.isLegal());
            force(x, "enterAward", worker, 1);
            Check.equal(what, "3 " + due, x.held(worker) + " " + x.isLegal());
        }
    }

    // ---- promise 36: awardAt

    static void promise36AwardAtOfThisAward() {
        Edges.says("Returns a number of an award.");
        Edges.says("Returns the number.");
        ShiftMarket x = Check.full();
        int[][] awards = {{3, 14}, {0, 2}, {9, 14}, {3, 0}, {7, 7}};
        for (int[] award : awards) {
            x.award(award[0], award[1]);
        }
        for (int index = 0; index < 5; index++) {
            Check.equal("award " + index, Check.row(awards[index]), Check.row(x.awardAt(index, 0),
                    x.awardAt(index, 1)));
        }
        x.revoke(9, 14);
        Check.equal("one less", "3 0 7 7", Check.row(x.awardAt(2, 0), x.awardAt(2, 1), x.awardAt(3, 0),
                x.awardAt(3, 1)));
    }

    // ---- promise 37: isLegal

    static void promise37IsLegalOrNot() {
        Edges.says("Returns whether no worker holds a shift against which there would be one of the obstacles 2 and 4"
                + " to 7, with the other ones that the worker holds as the set, and no coverage is above the need or"
                + " below the guarantee.");
        Edges.says("Returns whether this is so.");
        isLegalWithBoth("no overlap", true, 0, 168, 28, at(3, 8, 8), at(3, 16, 8));
        isLegalWithBoth("obstacle 4", false, 0, 168, 28, at(3, 8, 8), at(3, 15, 8));
        isLegalWithBoth("enough rest", true, 8, 168, 28, at(3, 8, 8), at(4, 0, 8));
        isLegalWithBoth("obstacle 5", false, 9, 168, 28, at(3, 8, 8), at(4, 0, 8));
        isLegalWithBoth("as many hours as may be", true, 0, 16, 28, at(0, 8, 8), at(6, 8, 8));
        isLegalWithBoth("obstacle 6", false, 0, 15, 28, at(0, 8, 8), at(6, 8, 8));
        isLegalWithBoth("as many days as may be", true, 0, 168, 2, at(3, 8, 8), at(4, 8, 8));
        isLegalWithBoth("obstacle 7", false, 0, 168, 1, at(3, 8, 8), at(4, 8, 8));
    }

    static void promise37IsLegalWithTheSkill() {
        Edges.says("Returns whether no worker holds a shift against which there would be one of the obstacles 2");
        for (int skills = 0; skills < 16; skills++) {
            for (int skill = 0; skill < 4; skill++) {
                ShiftMarket x = Edges.workersAlone();
                x.addWorker(0, 0, 168, 28, skills);
                x.addShift(0, 8, 8, skill, 1);
                x.addShift(3, 8, 8, skill, 1);
                force(x, "enterAward", 3, 1);
                Check.equal("skill " + skill + " of " + skills, skills / (1 << skill) % 2 == 1, x.isLegal());
            }
        }
    }

    /** Four workers whom nothing limits, and two shifts, of which one, the first or the second, has this need. */
    private static ShiftMarket withNeed(int shift, int need) {
        ShiftMarket x = Edges.workersAlone();
        x.addWorker(0, 0, 168, 28, 15);
        x.addShift(0, 0, 1, 0, shift == 0 ? need : 3);
        x.addShift(1, 0, 1, 0, shift == 1 ? need : 3);
        return x;
    }

    static void promise37IsLegalUpToTheNeed() {
        Edges.says("no coverage is above the need or below the guarantee.");
        for (int index = 0; index < 6; index++) {
            int shift = index % 2;
            int need = 1 + index / 2;
            ShiftMarket x = withNeed(shift, need);
            for (int coverage = 1; coverage <= 4; coverage++) {
                force(x, "enterAward", coverage - 1, shift);
                Check.equal("shift " + shift + ", coverage " + coverage + ", need " + need, coverage <= need,
                        x.isLegal());
            }
        }
    }

    static void promise37IsLegalDownToTheGuarantee() {
        Edges.says("no coverage is above the need or below the guarantee.");
        for (int index = 0; index < 32; index++) {
            int shift = index % 2;
            int coverage = index / 2 % 4;
            int guarantee = index / 8;
            ShiftMarket x = withNeed(shift, 3);
            for (int worker = 0; worker < coverage; worker++) {
                x.award(worker, shift);
            }
            force(x, "enterGuarantee", shift, guarantee);
            Check.equal("shift " + shift + ", coverage " + coverage + ", guarantee " + guarantee,
                    coverage >= guarantee, x.isLegal());
        }
    }

    // ---- promises 38 and 39: averageHours and coveredShare

    static void promise38AverageHoursIsTheAverage() {
        Edges.says("Returns the average.");
        ShiftMarket x = limited(0, 168, 28, at(6, 23, 7), at(14, 0, 6));
        x.award(3, 0);
        Check.equal("7 of 10", 0.7, x.averageHours());
        x.award(9, 0);
        x.award(9, 1);
        Check.equal("20 of 10", 2.0, x.averageHours());
        x.award(0, 1);
        Check.equal("26 of 10", 2.6, x.averageHours());
        x.revoke(3, 0);
        Check.equal("19 of 10", 1.9, x.averageHours());
    }

    static void promise39CoveredShareIsTheQuotient() {
        Edges.says("Returns the quotient.");
        ShiftMarket x = limited(0, 168, 28, at(6, 23, 7), at(14, 0, 6));
        x.addShift(20, 0, 1, 0, 3);
        x.award(3, 0);
        Check.equal("1 of 7", 1.0f / 7.0f, x.coveredShare());
        x.award(9, 0);
        x.award(9, 1);
        Check.equal("3 of 7", 3.0f / 7.0f, x.coveredShare());
        x.award(0, 2);
        x.award(1, 2);
        x.award(2, 2);
        Check.equal("6 of 7", 6.0f / 7.0f, x.coveredShare());
        x.revoke(3, 0);
        Check.equal("5 of 7", 5.0f / 7.0f, x.coveredShare());
    }
}
