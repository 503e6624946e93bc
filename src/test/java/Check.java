import java.util.NoSuchElementException;

/** What the tests share: comparing answers, and markets to begin with. */
final class Check {
    interface Act {
        void on(ShiftMarket x);
    }

    interface Recipe {
        ShiftMarket make();
    }

    private static int wrong = 0;
    private static int checks = 0;
    private static String about = "";

    private Check() {
    }

    static void equal(String what, Object due, Object got) {
        checks++;
        if (!due.equals(got)) {
            wrong++;
            System.out.println(about + what + " answered " + got + ", due is " + due);
        }
    }

    /** What stands before each wrong answer that is told from now on. */
    static void about(String test) {
        about = test + ": ";
    }

    /** Numbers that are answered one after the other, to be compared in one row. */
    static String row(int... numbers) {
        StringBuilder text = new StringBuilder();
        for (int number : numbers) {
            text.append(text.length() == 0 ? "" : " ").append(number);
        }
        return text.toString();
    }

    /**
     * Also looks whether the call that throws leaves everything as it was: what can be asked for, the text, what
     * can be taken back, what was saved and, unless an obstacle is the reason, the reason.
     */
    static void refuses(String what, Class<? extends RuntimeException> due, Recipe recipe, Act act) {
        ShiftMarket x = recipe.make();
        ShiftMarket same = recipe.make();
        equal(what, due.getSimpleName(), thrownBy(x, act));
        equal(what + ": the fault position and the failed item", readingOf(same), readingOf(x));
        leaves(what, due, same, x);
    }

    /**
     * Like refuses, for addItems: that empties the text, and tells anew what was wrong with it. The recipe's text is
     * empty.
     */
    static void refusesItems(String what, Class<? extends RuntimeException> due, Recipe recipe, String text) {
        ShiftMarket x = recipe.make();
        append(x, text);
        equal(what, due.getSimpleName(), thrownBy(x, ShiftMarket::addItems));
        leaves(what, due, recipe.make(), x);
    }

    private static void leaves(String what, Class<? extends RuntimeException> due, ShiftMarket same, ShiftMarket x) {
        equal(what + ": the state", stateOf(same), stateOf(x));
        if (due != UNSUPPORTED) {
            equal(what + ": the reason", reasonOf(same), reasonOf(x));
        }
        after(what + ": addItems", same, x, ShiftMarket::addItems);
        equal(what + ": what addItems tells", readingOf(same), readingOf(x));
        for (int count = 0; count <= 8; count++) {
            after(what + ": undo", same, x, ShiftMarket::undo);
        }
        after(what + ": restore", same, x, ShiftMarket::restore);
    }

    private static void after(String what, ShiftMarket same, ShiftMarket x, Act act) {
        equal(what, thrownBy(same, act), thrownBy(x, act));
        equal(what + ": the state after it", stateOf(same), stateOf(x));
    }

    static String thrownBy(ShiftMarket x, Act act) {
        try {
            act.on(x);
            return "nothing";
        } catch (RuntimeException e) {
            return e.getClass().getSimpleName();
        }
    }

    static String stateOf(ShiftMarket x) {
        StringBuilder text = new StringBuilder();
        for (int worker = 0; worker < x.workerCount(); worker++) {
            text.append("w");
            for (int part = 0; part < 6; part++) {
                text.append(x.worker(worker, part)).append(",");
            }
        }
        for (int shift = 0; shift < x.shiftCount(); shift++) {
            text.append("s");
            for (int part = 0; part < 8; part++) {
                text.append(x.shift(shift, part)).append(",");
            }
            for (int worker = 0; worker < x.workerCount(); worker++) {
                text.append("b").append(x.bid(worker, shift));
            }
        }
        for (int index = 0; index < x.awardCount(); index++) {
            text.append("a").append(x.awardAt(index, 0)).append(",").append(x.awardAt(index, 1));
        }
        return text.toString();
    }

    static String reasonOf(ShiftMarket x) {
        return row(x.reason(0), x.reason(1), x.reason(2));
    }

    static String readingOf(ShiftMarket x) {
        return row(x.faultPosition(), x.failedItem());
    }

    static String awardsOf(ShiftMarket x) {
        StringBuilder text = new StringBuilder();
        for (int index = 0; index < x.awardCount(); index++) {
            text.append(index == 0 ? "" : " ").append(x.awardAt(index, 0)).append(":").append(x.awardAt(index, 1));
        }
        return text.toString();
    }

    static void append(ShiftMarket x, String text) {
        for (int index = 0; index < text.length(); index++) {
            x.appendCharacter(text.charAt(index));
        }
    }

    /** Three workers whom nothing limits, and a shift of 8 hours on each of the first four days. */
    static ShiftMarket free() {
        ShiftMarket x = new ShiftMarket();
        for (int worker = 0; worker < 3; worker++) {
            x.addWorker(0, 0, 168, 28, 15);
        }
        for (int day = 0; day < 4; day++) {
            x.addShift(day, 8, 8, day, 2);
        }
        return x;
    }

    static ShiftMarket full() {
        ShiftMarket x = new ShiftMarket();
        for (int worker = 0; worker < 10; worker++) {
            x.addWorker(0, 0, 168, 28, 15);
        }
        for (int shift = 0; shift < 16; shift++) {
            x.addShift(shift, 0, 1, 0, 3);
        }
        return x;
    }

    /**
     * Like free, but with something in each place that a call must leave: bids, awards, a guarantee, a text, a
     * failed item, a reason, what was saved, and as many changes as can be taken back. Shift 0 is guaranteed to the
     * workers 0 and 1, worker 1 also holds shift 1.
     */
    static ShiftMarket busy() {
        ShiftMarket x = free();
        x.setBid(0, 3, 5);
        x.award(0, 0);
        x.award(1, 1);
        x.save();
        x.award(1, 0);
        x.setGuarantee(0, 2);
        append(x, "b0,0,1;b0,9,9");
        thrownBy(x, ShiftMarket::addItems);
        thrownBy(x, y -> y.award(2, 0));
        append(x, "b2,2,7");
        return x;
    }

    /** Like full, but with something in each place; worker 4 has 8 bids, and worker 9 alone holds shift 15. */
    static ShiftMarket crowded() {
        ShiftMarket x = full();
        for (int shift = 0; shift < 8; shift++) {
            x.setBid(4, shift, 1 + shift);
        }
        x.save();
        append(x, "b5,5,5;w1,2");
        thrownBy(x, ShiftMarket::addItems);
        x.award(9, 15);
        thrownBy(x, y -> y.award(9, 15));
        append(x, "b5,5,5");
        return x;
    }

    static void end(String name) {
        System.out.println(name + ": " + checks + " checks, " + wrong + " wrong");
        if (wrong > 0) {
            System.exit(1);
        }
    }

    static final Class<IndexOutOfBoundsException> INDEX = IndexOutOfBoundsException.class;
    static final Class<IllegalArgumentException> ARGUMENT = IllegalArgumentException.class;
    static final Class<IllegalStateException> STATE = IllegalStateException.class;
    static final Class<NoSuchElementException> ELEMENT = NoSuchElementException.class;
    static final Class<UnsupportedOperationException> UNSUPPORTED = UnsupportedOperationException.class;
    static final Class<ArithmeticException> ARITHMETIC = ArithmeticException.class;
}
