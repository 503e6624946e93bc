/** The edges of promises 23 to 25: exchanges of two and of three, and the partner. */
final class ExchangeEdges {
    private static final String POSSIBLE = "0 0 -1";

    private ExchangeEdges() {
    }

    private static int[] at(int day, int hour, int length) {
        return ObstacleTest.at(day, hour, length);
    }

    /** Ten workers and sixteen shifts; worker 0 holds shift 0, worker 8 shift 8, and worker 9 shift 15. */
    private static ShiftMarket holders() {
        ShiftMarket x = Check.crowded();
        x.award(0, 0);
        x.award(8, 8);
        Check.thrownBy(x, y -> y.award(8, 8));
        return x;
    }

    /**
     * Worker 0 has skill 0 and these limits, and holds the shifts 0, which it keeps, and 1, which it gives; worker 1
     * holds shift 2, worker 2 shift 3, and nothing limits these two. Each shift needs no more workers.
     */
    private static ShiftMarket limited(int[] limits, int[] kept, int[] given, int[] gotten) {
        ShiftMarket x = new ShiftMarket();
        x.addWorker(0, limits[0], limits[1], limits[2], 1);
        x.addWorker(0, 0, 168, 28, 15);
        x.addWorker(0, 0, 168, 28, 15);
        x.addShift(kept[0], kept[1], kept[2], 0, 1);
        x.addShift(given[0], given[1], given[2], 0, 1);
        x.addShift(gotten[0], gotten[1], gotten[2], gotten.length > 3 ? gotten[3] : 0, 1);
        x.addShift(27, 0, 1, 0, 1);
        x.award(0, 0);
        x.award(0, 1);
        x.award(1, 2);
        x.award(2, 3);
        return x;
    }

    private static void worker0GetsShift2(String due, int[] limits, int[] kept, int[] given, int[] gotten) {
        Check.Recipe recipe = () -> limited(limits, kept, given, gotten);
        Check.equal("four awards", 4, recipe.make().awardCount());
        gives("first of two", due, "0:0 1:1 0:2 2:3", recipe, y -> y.exchange(0, 1, 1, 2));
        gives("second of two", due, "0:0 1:1 0:2 2:3", recipe, y -> y.exchange(1, 2, 0, 1));
        gives("first of three", due, "0:0 2:1 0:2 1:3", recipe, y -> y.rotate(0, 1, 2, 3, 1, 2));
        gives("second of three", due, "0:0 2:1 0:2 1:3", recipe, y -> y.rotate(1, 2, 0, 1, 2, 3));
        gives("third of three", due, "0:0 2:1 0:2 1:3", recipe, y -> y.rotate(2, 3, 1, 2, 0, 1));
        ShiftMarket x = recipe.make();
        Check.equal("partner", due.equals(POSSIBLE) ? "nothing" : "NoSuchElementException",
                Check.thrownBy(x, y -> y.partner(1, 1, 0)));
    }

    private static void gives(String what, String due, String awards, Check.Recipe recipe, Check.Act act) {
        if (!due.equals(POSSIBLE)) {
            Edges.refusesFor(what, due, recipe, act);
            return;
        }
        ShiftMarket x = recipe.make();
        Check.equal(what, "nothing " + POSSIBLE + " " + awards, Check.thrownBy(x, act) + " " + Check.reasonOf(x) + " "
                + Check.awardsOf(x));
    }

    // ---- promise 23: exchange

    static void promise23ExchangeNoSuchWorkerOrShift() {
        Edges.says("Throws IndexOutOfBoundsException if there is no such worker or shift");
        Edges.refusesNoWorker((y, wrong) -> y.exchange(wrong, 0, 1, 1));
        Edges.refusesNoShift((y, wrong) -> y.exchange(0, wrong, 1, 1));
        Edges.refusesNoWorker((y, wrong) -> y.exchange(1, 1, wrong, 0));
        Edges.refusesNoShift((y, wrong) -> y.exchange(1, 1, 0, wrong));
        ShiftMarket x = holders();
        x.exchange(9, 15, 0, 0);
        Check.equal("the last ones and the first ones", "32768 1", Check.row(x.held(0), x.held(9)));
    }

    static void promise23ExchangeWithOneself() {
        Edges.says("Throws IllegalArgumentException if both workers are the same");
        Check.refuses("of the same shift", Check.ARGUMENT, ExchangeEdges::holders, y -> y.exchange(9, 15, 9, 15));
        Check.refuses("of two shifts", Check.ARGUMENT, Check::busy, y -> y.exchange(1, 0, 1, 1));
    }

    static void promise23ExchangeOfWhatIsNotHeld() {
        Edges.says("Throws NoSuchElementException if one of them does not hold the shift");
        Check.refuses("the first", Check.ELEMENT, ExchangeEdges::holders, y -> y.exchange(9, 0, 0, 0));
        Check.refuses("the other", Check.ELEMENT, ExchangeEdges::holders, y -> y.exchange(9, 15, 0, 15));
        Check.refuses("both", Check.ELEMENT, ExchangeEdges::holders, y -> y.exchange(9, 0, 0, 15));
        Check.refuses("nothing is held", Check.ELEMENT, Check::free, y -> y.exchange(0, 0, 1, 1));
    }

    static void promise23ExchangeNotPossible() {
        Edges.says("Throws UnsupportedOperationException if the exchange is not possible; the first obstacle of the"
                + " first worker who has one becomes the reason");
        Check.Recipe both = () -> {
            ShiftMarket x = new ShiftMarket();
            x.addWorker(0, 0, 168, 28, 1);
            x.addWorker(0, 0, 6, 28, 2);
            x.addShift(0, 0, 7, 0, 1);
            x.addShift(1, 0, 6, 1, 1);
            x.award(0, 0);
            x.award(1, 1);
            return x;
        };
        Edges.refusesFor("both, the first counts", "2 1 0", both, y -> y.exchange(0, 0, 1, 1));
        Edges.refusesFor("both, the other way round", "2 0 1", both, y -> y.exchange(1, 1, 0, 0));
    }

    static void promise23ExchangeOrderOfExceptions() {
        Edges.says(Edges.ORDER);
        Check.refuses("no worker, twice", Check.INDEX, ExchangeEdges::holders, y -> y.exchange(10, 0, 10, 0));
        Check.refuses("no shift, oneself", Check.INDEX, ExchangeEdges::holders, y -> y.exchange(9, 15, 9, 16));
        Check.refuses("no shift at last, not held", Check.INDEX, ExchangeEdges::holders, y -> y.exchange(9, 0, 0, 16));
        Check.refuses("oneself, not held", Check.ARGUMENT, ExchangeEdges::holders, y -> y.exchange(9, 0, 9, 1));
        Check.Recipe recipe = () -> limited(new int[] {0, 168, 28}, at(0, 0, 1), at(1, 0, 1), at(2, 0, 1, 1));
        Check.refuses("not held by the other one, skill of the first", Check.ELEMENT, recipe,
                y -> y.exchange(0, 1, 2, 2));
        Check.refuses("not held by the first, skill of the other one", Check.ELEMENT, recipe,
                y -> y.exchange(2, 2, 0, 1));
    }

    private static int[] at(int day, int hour, int length, int skill) {
        return new int[] {day, hour, length, skill};
    }

    static void promise23ExchangeHeldAndSkill() {
        Edges.says("An exchange is possible if, for each of the workers in their order in the call, there is no"
                + " obstacle for what the worker gets, where obstacle 3 is left out, and the set is what the worker"
                + " holds without what the worker gives.");
        int[] limits = {0, 168, 28};
        worker0GetsShift2(POSSIBLE, limits, at(0, 0, 1), at(1, 0, 1), at(2, 0, 1, 0));
        worker0GetsShift2("2 1 0", limits, at(0, 0, 1), at(1, 0, 1), at(2, 0, 1, 1));
        worker0GetsShift2("2 3 0", limits, at(0, 0, 1), at(1, 0, 1), at(2, 0, 1, 3));
        Edges.refusesFor("what is kept", "1 0 1", Check::busy, y -> y.exchange(1, 1, 0, 0));
        Edges.refusesFor("what the other one keeps", "1 0 1", Check::busy, y -> y.exchange(0, 0, 1, 1));
    }

    static void promise23ExchangeOverlap() {
        Edges.says("the set is what the worker holds without what the worker gives");
        int[] limits = {0, 168, 28};
        worker0GetsShift2(POSSIBLE, limits, at(3, 8, 8), at(9, 0, 1), at(3, 16, 8));
        worker0GetsShift2("4 0 0", limits, at(3, 8, 8), at(9, 0, 1), at(3, 15, 8));
        worker0GetsShift2(POSSIBLE, limits, at(3, 8, 8), at(9, 0, 8), at(3, 0, 8));
        worker0GetsShift2("4 0 0", limits, at(3, 8, 8), at(9, 0, 8), at(3, 1, 8));
        worker0GetsShift2(POSSIBLE, limits, at(3, 8, 8), at(3, 0, 8), at(3, 0, 8));
    }

    static void promise23ExchangeRest() {
        Edges.says("the set is what the worker holds without what the worker gives");
        int[] limits = {8, 168, 28};
        worker0GetsShift2(POSSIBLE, limits, at(3, 8, 8), at(9, 0, 1), at(4, 0, 8));
        worker0GetsShift2("5 0 0", limits, at(3, 8, 8), at(9, 0, 1), at(3, 23, 8));
        worker0GetsShift2(POSSIBLE, limits, at(3, 8, 8), at(4, 0, 8), at(4, 1, 8));
    }

    static void promise23ExchangeHours() {
        Edges.says("the set is what the worker holds without what the worker gives");
        int[] limits = {0, 12, 28};
        worker0GetsShift2(POSSIBLE, limits, at(0, 0, 6), at(2, 0, 6), at(6, 0, 6));
        worker0GetsShift2("6 0 0", limits, at(0, 0, 6), at(2, 0, 6), at(6, 0, 7));
        worker0GetsShift2(POSSIBLE, limits, at(0, 0, 6), at(2, 0, 6), at(7, 0, 12));
    }

    static void promise23ExchangeDays() {
        Edges.says("the set is what the worker holds without what the worker gives");
        worker0GetsShift2(POSSIBLE, new int[] {0, 168, 2}, at(3, 0, 1), at(4, 0, 1), at(2, 0, 1));
        worker0GetsShift2("7 2 0", new int[] {0, 168, 1}, at(3, 0, 1), at(5, 0, 1), at(2, 0, 1));
        worker0GetsShift2(POSSIBLE, new int[] {0, 168, 1}, at(3, 0, 1), at(5, 0, 1), at(6, 0, 1));
    }

    static void promise23ExchangeOfTheSameShift() {
        Edges.says("In the list, each award stays at its place, and the worker changes.");
        ShiftMarket x = Check.busy();
        x.exchange(0, 0, 1, 0);
        Check.equal("the same shift, guaranteed", "1:0 1:1 0:0 2", Check.awardsOf(x) + " " + x.shift(0, 5));
        x.exchange(0, 0, 1, 0);
        Check.equal("and back", "0:0 1:1 1:0", Check.awardsOf(x));
    }

    static void promise23ExchangeOfTheFirstAndTheLastAward() {
        Edges.says("In the list, each award stays at its place, and the worker changes.");
        ShiftMarket x = Check.full();
        for (int index = 0; index < 48; index++) {
            x.award(index % 3 + (index < 24 ? 0 : 3), index / 3);
        }
        x.exchange(5, 15, 0, 0);
        Check.equal("of 48", "5 0 0 15 48 true", Check.row(x.awardAt(0, 0), x.awardAt(0, 1), x.awardAt(47, 0),
                x.awardAt(47, 1), x.awardCount()) + " " + x.isLegal());
        Check.equal("those beside them stay", "1 0 4 15", Check.row(x.awardAt(1, 0), x.awardAt(1, 1),
                x.awardAt(46, 0), x.awardAt(46, 1)));
    }

    // ---- promise 24: rotate

    static void promise24RotateNoSuchWorkerOrShift() {
        Edges.says("Throws IndexOutOfBoundsException if there is no such worker or shift");
        Edges.refusesNoWorker((y, wrong) -> y.rotate(wrong, 0, 1, 1, 2, 2));
        Edges.refusesNoShift((y, wrong) -> y.rotate(0, wrong, 1, 1, 2, 2));
        Edges.refusesNoWorker((y, wrong) -> y.rotate(0, 0, wrong, 1, 2, 2));
        Edges.refusesNoShift((y, wrong) -> y.rotate(0, 0, 1, wrong, 2, 2));
        Edges.refusesNoWorker((y, wrong) -> y.rotate(0, 0, 1, 1, wrong, 2));
        Edges.refusesNoShift((y, wrong) -> y.rotate(0, 0, 1, 1, 2, wrong));
        ShiftMarket x = holders();
        x.rotate(9, 15, 0, 0, 8, 8);
        Check.equal("the last ones and the first ones", "32768 1 256", Check.row(x.held(0), x.held(8), x.held(9)));
    }

    static void promise24RotateOfTwoTheSame() {
        Edges.says("Throws IllegalArgumentException if two of the workers are the same");
        Check.refuses("the first and the second", Check.ARGUMENT, ExchangeEdges::holders,
                y -> y.rotate(9, 15, 9, 15, 0, 0));
        Check.refuses("the second and the third", Check.ARGUMENT, ExchangeEdges::holders,
                y -> y.rotate(0, 0, 9, 15, 9, 15));
        Check.refuses("the first and the third", Check.ARGUMENT, ExchangeEdges::holders,
                y -> y.rotate(9, 15, 0, 0, 9, 15));
        Check.refuses("all three", Check.ARGUMENT, ExchangeEdges::holders, y -> y.rotate(9, 15, 9, 15, 9, 15));
    }

    static void promise24RotateOfWhatIsNotHeld() {
        Edges.says("Throws NoSuchElementException if one of them does not hold the shift");
        Check.refuses("the first", Check.ELEMENT, ExchangeEdges::holders, y -> y.rotate(9, 0, 0, 0, 8, 8));
        Check.refuses("the second", Check.ELEMENT, ExchangeEdges::holders, y -> y.rotate(9, 15, 0, 15, 8, 8));
        Check.refuses("the third", Check.ELEMENT, ExchangeEdges::holders, y -> y.rotate(9, 15, 0, 0, 8, 0));
        Check.refuses("nothing is held", Check.ELEMENT, Check::free, y -> y.rotate(0, 0, 1, 1, 2, 2));
    }

    static void promise24RotateNotPossible() {
        Edges.says("Throws UnsupportedOperationException if the exchange is not possible; the first obstacle of the"
                + " first worker who has one becomes the reason");
        Check.Recipe skills = () -> {
            ShiftMarket x = new ShiftMarket();
            for (int worker = 0; worker < 3; worker++) {
                x.addWorker(0, 0, 168, 28, 1 << worker);
                x.addShift(worker, 0, 1, worker, 1);
                x.award(worker, worker);
            }
            x.addWorker(0, 0, 168, 28, 15);
            x.addShift(3, 0, 1, 3, 1);
            x.award(3, 3);
            return x;
        };
        Edges.refusesFor("all three", "2 2 0", skills, y -> y.rotate(0, 0, 1, 1, 2, 2));
        Edges.refusesFor("all three, others first", "2 1 2", skills, y -> y.rotate(2, 2, 0, 0, 1, 1));
        Edges.refusesFor("the first and the second", "2 3 0", skills, y -> y.rotate(0, 0, 1, 1, 3, 3));
        Edges.refusesFor("the second and the third", "2 3 1", skills, y -> y.rotate(3, 3, 1, 1, 0, 0));
        Edges.refusesFor("the first and the third", "2 1 0", skills, y -> y.rotate(0, 0, 3, 3, 1, 1));
        Edges.refusesFor("the first gets what it holds", "1 0 1", () -> {
            ShiftMarket x = Check.busy();
            x.award(2, 3);
            return x;
        }, y -> y.rotate(1, 1, 2, 3, 0, 0));
    }

    static void promise24RotateOrderOfExceptions() {
        Edges.says(Edges.ORDER);
        Check.refuses("no worker, three times", Check.INDEX, ExchangeEdges::holders,
                y -> y.rotate(10, 0, 10, 0, 10, 0));
        Check.refuses("two the same, no shift at last", Check.INDEX, ExchangeEdges::holders,
                y -> y.rotate(9, 15, 9, 15, 0, 16));
        Check.refuses("not held, no worker at last", Check.INDEX, ExchangeEdges::holders,
                y -> y.rotate(9, 0, 0, 15, 10, 0));
        Check.refuses("not held, the second and the third the same", Check.ARGUMENT, ExchangeEdges::holders,
                y -> y.rotate(9, 0, 0, 0, 0, 0));
        Check.refuses("not held, the first and the third the same", Check.ARGUMENT, ExchangeEdges::holders,
                y -> y.rotate(9, 0, 0, 0, 9, 1));
        Check.Recipe recipe = () -> limited(new int[] {0, 168, 28}, at(0, 0, 1), at(1, 0, 1), at(2, 0, 1, 1));
        Check.refuses("skill of the first, not held by the second", Check.ELEMENT, recipe,
                y -> y.rotate(0, 1, 2, 2, 1, 2));
        Check.refuses("skill of the second, not held by the third", Check.ELEMENT, recipe,
                y -> y.rotate(1, 2, 0, 1, 2, 2));
    }

    static void promise24RotateOfTheSameShift() {
        Edges.says("In the list, each award stays at its place, and the worker changes.");
        ShiftMarket x = Check.full();
        x.award(0, 15);
        x.award(5, 0);
        x.award(9, 15);
        x.award(4, 15);
        x.rotate(4, 15, 9, 15, 0, 15);
        Check.equal("three times", "4:15 5:0 0:15 9:15", Check.awardsOf(x));
        x.rotate(5, 0, 9, 15, 0, 15);
        Check.equal("twice", "4:15 9:0 5:15 0:15", Check.awardsOf(x));
    }

    // ---- promise 25: partner

    private static String partnerOf(ShiftMarket x, int worker, int shift) {
        return Check.row(x.partner(worker, shift, 0), x.partner(worker, shift, 1));
    }

    static void promise25PartnerTheLowest() {
        Edges.says("with the partner with the lowest number, and of several the shift given that has the lowest"
                + " number");
        ShiftMarket x = Check.full();
        x.award(0, 0);
        x.award(9, 15);
        Check.equal("the last worker and shift, the first ones", "9 0 0 15", partnerOf(x, 0, 15) + " "
                + partnerOf(x, 9, 0));
        x.award(8, 15);
        x.award(0, 14);
        x.award(9, 14);
        x.award(9, 1);
        Check.equal("a lower partner", "8 0", partnerOf(x, 0, 15));
        Check.equal("a lower shift", "0 1", partnerOf(x, 9, 0));
        x.award(8, 0);
        Check.equal("the lowest partner has the lowest shift already", "8 14", partnerOf(x, 0, 15));
    }

    static void promise25PartnerOfTheSameShift() {
        Edges.says("the shift given can be the same one");
        ShiftMarket x = Check.full();
        x.award(0, 15);
        x.award(9, 15);
        Check.equal("the same shift", "9 15 0 15", partnerOf(x, 0, 15) + " " + partnerOf(x, 9, 15));
        x.award(0, 0);
        Check.equal("not another one, as it is held", "9 15", partnerOf(x, 0, 15));
    }

    static void promise25PartnerNone() {
        Edges.says("Throws NoSuchElementException if there is no such exchange");
        Check.refuses("the shift is not held", Check.ELEMENT, Check::busy, y -> y.partner(0, 3, 0));
        Check.refuses("the worker has nothing to give", Check.ELEMENT, Check::busy, y -> y.partner(2, 0, 1));
        Check.refuses("held by the worker alone", Check.ELEMENT, Check::busy, y -> y.partner(1, 1, 0));
        Check.refuses("the other one holds it already", Check.ELEMENT, Check::busy, y -> y.partner(0, 1, 0));
        Check.refuses("nothing is held", Check.ELEMENT, Check::crowded, y -> y.partner(0, 0, 0));
    }

    static void promise25PartnerPart() {
        Edges.says("part: 0 for the partner, 1 for the shift that the worker gives");
        ShiftMarket x = holders();
        Check.equal("the parts", "9 0", Check.row(x.partner(0, 15, 0), x.partner(0, 15, 1)));
    }

    static void promise25PartnerNoSuchWorkerOrShift() {
        Edges.says("Throws IndexOutOfBoundsException if there is no such worker or shift");
        Edges.refusesNoWorker((y, wrong) -> y.partner(wrong, 0, 0));
        Edges.refusesNoShift((y, wrong) -> y.partner(0, wrong, 1));
    }

    static void promise25PartnerNoSuchPart() {
        Edges.says("Throws IllegalArgumentException if the part is out of range");
        Edges.refusesOutside("part", 0, 1, Check.ARGUMENT, ExchangeEdges::holders,
                (y, wrong) -> y.partner(0, 15, wrong));
    }

    static void promise25PartnerOrderOfExceptions() {
        Edges.says(Edges.ORDER);
        Check.refuses("no worker, no part", Check.INDEX, Check::busy, y -> y.partner(3, 0, 2));
        Check.refuses("no shift, no part", Check.INDEX, Check::busy, y -> y.partner(0, -1, -1));
        Check.refuses("no shift, none such", Check.INDEX, Check::busy, y -> y.partner(2, 4, 0));
        Check.refuses("no part, none such", Check.ARGUMENT, Check::busy, y -> y.partner(2, 0, 2));
    }
}
