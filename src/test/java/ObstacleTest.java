/** Promise 15: the obstacles, their order, numbers and details. */
public final class ObstacleTest {
    public static void main(String[] args) {
        none();
        held();
        skill();
        coverage();
        overlap();
        rest();
        hours();
        days();
        firstOfSeveral();
        wrongInputs();
        Check.end("ObstacleTest");
    }

    static String of(ShiftMarket x, int worker, int shift) {
        return Check.row(x.obstacle(worker, shift, 0), x.obstacle(worker, shift, 1));
    }

    /** A market with one worker, of all skills, and the shifts, of which all but the last are awarded. */
    static ShiftMarket market(int rest, int hours, int days, int[]... shifts) {
        ShiftMarket x = new ShiftMarket();
        x.addWorker(0, rest, hours, days, 15);
        for (int index = 0; index < shifts.length; index++) {
            x.addShift(shifts[index][0], shifts[index][1], shifts[index][2], 0, 1);
            if (index < shifts.length - 1) {
                x.award(0, index);
            }
        }
        return x;
    }

    static int[] at(int day, int hour, int length) {
        return new int[] {day, hour, length};
    }

    private static void last(String due, int rest, int hours, int days, int[]... shifts) {
        ShiftMarket x = market(rest, hours, days, shifts);
        StringBuilder what = new StringBuilder("obstacle with rest " + rest + ", hours " + hours + ", days " + days);
        for (int[] shift : shifts) {
            what.append(" ").append(shift[0]).append("/").append(shift[1]).append("+").append(shift[2]);
        }
        Check.equal(what.toString(), due, of(x, 0, shifts.length - 1));
        Check.equal(what + " leaves the reason", "0 0 -1", Check.reasonOf(x));
    }

    private static void none() {
        ShiftMarket x = Check.free();
        Check.equal("no obstacle", "0 0", of(x, 2, 3));
        x.award(0, 0);
        x.undo();
        Check.equal("no obstacle after undo", "0 0", of(x, 0, 0));
    }

    private static void held() {
        ShiftMarket x = Check.free();
        x.award(1, 2);
        Check.equal("a shift that is held", "1 2", of(x, 1, 2));
        Check.equal("a shift that another one holds", "0 0", of(x, 0, 2));
        x.award(1, 0);
        Check.equal("shift 0 is held", "1 0", of(x, 1, 0));
    }

    private static void skill() {
        ShiftMarket x = new ShiftMarket();
        for (int skills = 0; skills < 10; skills++) {
            x.addWorker(0, 0, 168, 28, skills);
        }
        for (int skill = 0; skill < 4; skill++) {
            x.addShift(skill, 0, 1, skill, 1);
        }
        for (int skills = 0; skills < 10; skills++) {
            for (int skill = 0; skill < 4; skill++) {
                boolean has = skills / (1 << skill) % 2 == 1;
                Check.equal("skill " + skill + " of " + skills, has ? "0 0" : "2 " + skill, of(x, skills, skill));
            }
        }
    }

    private static void coverage() {
        ShiftMarket x = new ShiftMarket();
        for (int worker = 0; worker < 4; worker++) {
            x.addWorker(0, 0, 168, 28, 1);
        }
        for (int need = 1; need <= 3; need++) {
            x.addShift(need, 0, 1, 0, need);
            for (int worker = 0; worker < need; worker++) {
                Check.equal("coverage " + worker + " of " + need, "0 0", of(x, worker, need - 1));
                x.award(worker, need - 1);
            }
            Check.equal("coverage " + need + " of " + need, "3 " + need, of(x, 3, need - 1));
        }
    }

    private static void overlap() {
        last("4 0", 0, 168, 28, at(1, 8, 8), at(1, 8, 8));
        last("4 0", 0, 168, 28, at(1, 8, 8), at(1, 15, 1));
        last("0 0", 0, 168, 28, at(1, 8, 8), at(1, 16, 1));
        last("4 0", 0, 168, 28, at(1, 8, 8), at(1, 0, 9));
        last("0 0", 0, 168, 28, at(1, 8, 8), at(1, 0, 8));
        last("4 0", 0, 168, 28, at(1, 8, 8), at(1, 6, 12));
        last("4 0", 0, 168, 28, at(1, 23, 12), at(2, 10, 1));
        last("0 0", 0, 168, 28, at(1, 23, 12), at(2, 11, 1));
        last("4 0", 0, 168, 28, at(7, 0, 1), at(6, 23, 2));
        last("4 0", 0, 168, 28, at(1, 12, 2), at(1, 8, 2), at(1, 9, 4));
        last("4 1", 0, 168, 28, at(1, 0, 2), at(1, 12, 2), at(1, 8, 2), at(1, 9, 4));
    }

    private static void rest() {
        last("5 0", 8, 168, 28, at(1, 0, 8), at(1, 15, 1));
        last("0 0", 8, 168, 28, at(1, 0, 8), at(1, 16, 1));
        last("5 0", 8, 168, 28, at(1, 15, 1), at(1, 0, 8));
        last("0 0", 8, 168, 28, at(1, 16, 1), at(1, 0, 8));
        last("5 0", 1, 168, 28, at(1, 0, 8), at(1, 8, 1));
        last("5 0", 24, 168, 28, at(1, 23, 12), at(3, 10, 1));
        last("0 0", 24, 168, 28, at(1, 23, 12), at(3, 11, 1));
        last("5 0", 4, 168, 28, at(1, 15, 1), at(1, 0, 8), at(1, 11, 1));
        last("5 1", 4, 168, 28, at(1, 20, 1), at(1, 15, 1), at(1, 0, 8), at(1, 11, 1));
        // An overlap counts before a rest that is too short, also with a higher shift.
        last("4 1", 6, 168, 28, at(1, 0, 4), at(1, 12, 4), at(1, 8, 5));
    }

    private static void hours() {
        last("0 0", 0, 12, 28, at(0, 0, 12));
        last("6 0", 0, 11, 28, at(0, 0, 12));
        last("6 0", 0, 16, 28, at(0, 0, 8), at(6, 0, 9));
        last("0 0", 0, 16, 28, at(0, 0, 8), at(6, 0, 8));
        last("0 0", 0, 16, 28, at(6, 0, 9), at(7, 0, 9));
        last("6 1", 0, 16, 28, at(7, 0, 9), at(13, 0, 9));
        last("6 2", 0, 16, 28, at(14, 0, 9), at(20, 0, 9));
        last("6 3", 0, 16, 28, at(21, 0, 9), at(27, 0, 9));
        // A shift belongs to the week in which it begins, whole.
        last("0 0", 0, 16, 28, at(7, 8, 9), at(6, 20, 12));
        last("6 0", 0, 16, 28, at(5, 0, 5), at(6, 20, 12));
        last("6 0", 0, 8, 28, at(0, 0, 3), at(1, 0, 3), at(8, 0, 3), at(2, 0, 3));
    }

    private static void days() {
        last("0 0", 0, 168, 1, at(3, 0, 1));
        last("7 2", 0, 168, 1, at(3, 0, 1), at(4, 0, 1));
        last("7 2", 0, 168, 1, at(4, 0, 1), at(3, 0, 1));
        last("0 0", 0, 168, 1, at(3, 0, 1), at(5, 0, 1));
        last("0 0", 0, 168, 1, at(3, 0, 1), at(3, 5, 1));
        last("7 5", 0, 168, 2, at(3, 0, 1), at(4, 0, 1), at(6, 0, 1), at(7, 0, 1), at(5, 0, 1));
        last("7 3", 0, 168, 2, at(3, 0, 1), at(6, 0, 1), at(7, 0, 1), at(5, 0, 1));
        last("7 3", 0, 168, 2, at(0, 0, 1), at(1, 0, 1), at(2, 0, 1));
        last("7 3", 0, 168, 2, at(27, 0, 1), at(26, 0, 1), at(25, 0, 1));
        last("0 0", 0, 168, 3, at(27, 0, 1), at(26, 0, 1), at(0, 0, 1), at(25, 0, 1));
        // The night after the second day does not count as a day of its own.
        last("0 0", 0, 168, 2, at(1, 23, 12), at(2, 23, 12), at(4, 0, 1));
        last("7 3", 0, 168, 2, at(6, 0, 1), at(7, 0, 1), at(8, 0, 1));
    }

    private static void firstOfSeveral() {
        ShiftMarket x = new ShiftMarket();
        x.addWorker(0, 10, 8, 1, 1);
        x.addWorker(0, 0, 168, 28, 3);
        x.addShift(1, 8, 6, 0, 1);
        x.addShift(2, 0, 6, 1, 1);
        x.addShift(1, 13, 6, 0, 1);
        x.addShift(1, 15, 6, 0, 1);
        x.addShift(2, 8, 6, 0, 1);
        x.addShift(2, 8, 2, 0, 1);
        x.award(0, 0);
        x.award(1, 2);
        Check.equal("held counts before the coverage", "1 0", of(x, 0, 0));
        x.award(1, 1);
        Check.equal("skill counts before the coverage", "2 1", of(x, 0, 1));
        Check.equal("coverage counts before an overlap", "3 1", of(x, 0, 2));
        x.revoke(1, 2);
        Check.equal("an overlap counts before rest and hours", "4 0", of(x, 0, 2));
        Check.equal("rest counts before hours", "5 0", of(x, 0, 3));
        Check.equal("hours count before days", "6 0", of(x, 0, 4));
        Check.equal("days count last", "7 2", of(x, 0, 5));
    }

    private static void wrongInputs() {
        for (int wrong : new int[] {-1, 3, Integer.MIN_VALUE, Integer.MAX_VALUE}) {
            Check.refuses("obstacle of worker " + wrong, Check.INDEX, Check::free, y -> y.obstacle(wrong, 0, 2));
        }
        for (int wrong : new int[] {-1, 4, Integer.MIN_VALUE, Integer.MAX_VALUE}) {
            Check.refuses("obstacle of shift " + wrong, Check.INDEX, Check::free, y -> y.obstacle(0, wrong, 2));
        }
        for (int wrong : new int[] {-1, 2, Integer.MIN_VALUE, Integer.MAX_VALUE}) {
            Check.refuses("obstacle's part " + wrong, Check.ARGUMENT, Check::free, y -> y.obstacle(0, 0, wrong));
        }
    }
}
