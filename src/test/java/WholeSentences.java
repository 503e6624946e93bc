import java.lang.reflect.Method;
import java.lang.reflect.Modifier;
import java.util.List;
import java.util.TreeSet;

/** What the document says of the whole class: what it is for, for how many calls, and what exceptions leave. */
final class WholeSentences {
    private record Refusal(String method, Class<? extends RuntimeException> due, Check.Recipe recipe, Check.Act act) {
        Refusal(String method, Class<? extends RuntimeException> due, Check.Act act) {
            this(method, due, Check::busy, act);
        }
    }

    private static final List<Refusal> REFUSALS = List.of(
            new Refusal("addWorker", Check.ARGUMENT, y -> y.addWorker(100, 0, 1, 1, 0)),
            new Refusal("addWorker", Check.STATE, Check::crowded, y -> y.addWorker(0, 0, 1, 1, 0)),
            new Refusal("addShift", Check.ARGUMENT, y -> y.addShift(28, 0, 1, 0, 1)),
            new Refusal("addShift", Check.STATE, Check::crowded, y -> y.addShift(0, 0, 1, 0, 1)),
            new Refusal("setBid", Check.INDEX, y -> y.setBid(3, 0, 1)),
            new Refusal("setBid", Check.ARGUMENT, y -> y.setBid(0, 0, 10)),
            new Refusal("setBid", Check.STATE, Check::crowded, y -> y.setBid(4, 8, 1)),
            new Refusal("appendCharacter", Check.ARGUMENT, y -> y.appendCharacter(32)),
            new Refusal("appendCharacter", Check.STATE, WholeSentences::withFullText, y -> y.appendCharacter('1')),
            new Refusal("worker", Check.INDEX, y -> y.worker(3, 0)),
            new Refusal("worker", Check.ARGUMENT, y -> y.worker(0, 6)),
            new Refusal("shift", Check.INDEX, y -> y.shift(4, 0)),
            new Refusal("shift", Check.ARGUMENT, y -> y.shift(0, 8)),
            new Refusal("bid", Check.INDEX, y -> y.bid(0, 4)),
            new Refusal("order", Check.INDEX, y -> y.order(3)),
            new Refusal("obstacle", Check.INDEX, y -> y.obstacle(3, 0, 0)),
            new Refusal("obstacle", Check.ARGUMENT, y -> y.obstacle(0, 0, 2)),
            new Refusal("award", Check.INDEX, y -> y.award(0, 4)),
            new Refusal("award", Check.UNSUPPORTED, y -> y.award(0, 0)),
            new Refusal("revoke", Check.INDEX, y -> y.revoke(3, 0)),
            new Refusal("revoke", Check.ELEMENT, y -> y.revoke(0, 3)),
            new Refusal("revoke", Check.UNSUPPORTED, y -> y.revoke(0, 0)),
            new Refusal("setGuarantee", Check.INDEX, y -> y.setGuarantee(4, 0)),
            new Refusal("setGuarantee", Check.ARGUMENT, y -> y.setGuarantee(0, 3)),
            new Refusal("setGuarantee", Check.STATE, y -> y.setGuarantee(3, 1)),
            new Refusal("reason", Check.ARGUMENT, y -> y.reason(3)),
            new Refusal("nextChoice", Check.INDEX, y -> y.nextChoice(3)),
            new Refusal("nextChoice", Check.ELEMENT, y -> y.nextChoice(2)),
            new Refusal("exchange", Check.INDEX, y -> y.exchange(0, 0, 3, 1)),
            new Refusal("exchange", Check.ARGUMENT, y -> y.exchange(0, 0, 0, 0)),
            new Refusal("exchange", Check.ELEMENT, y -> y.exchange(0, 1, 1, 1)),
            new Refusal("exchange", Check.UNSUPPORTED, y -> y.exchange(0, 0, 1, 1)),
            new Refusal("rotate", Check.INDEX, y -> y.rotate(0, 0, 1, 1, 2, 4)),
            new Refusal("rotate", Check.ARGUMENT, y -> y.rotate(0, 0, 1, 1, 0, 0)),
            new Refusal("rotate", Check.ELEMENT, y -> y.rotate(0, 0, 1, 1, 2, 2)),
            new Refusal("rotate", Check.UNSUPPORTED, WholeSentences::allHold, y -> y.rotate(1, 1, 2, 3, 0, 0)),
            new Refusal("partner", Check.INDEX, y -> y.partner(3, 0, 0)),
            new Refusal("partner", Check.ARGUMENT, y -> y.partner(0, 1, 2)),
            new Refusal("partner", Check.ELEMENT, y -> y.partner(2, 0, 0)),
            new Refusal("held", Check.INDEX, y -> y.held(3)),
            new Refusal("holders", Check.INDEX, y -> y.holders(4)),
            new Refusal("hours", Check.INDEX, y -> y.hours(3, 0)),
            new Refusal("hours", Check.ARGUMENT, y -> y.hours(0, 4)),
            new Refusal("daysInRow", Check.INDEX, y -> y.daysInRow(3)),
            new Refusal("shortestRest", Check.INDEX, y -> y.shortestRest(3)),
            new Refusal("shortestRest", Check.ELEMENT, y -> y.shortestRest(0)),
            new Refusal("points", Check.INDEX, y -> y.points(3)),
            new Refusal("bestSet", Check.INDEX, y -> y.bestSet(3)),
            new Refusal("bestPoints", Check.INDEX, y -> y.bestPoints(3)),
            new Refusal("awardAt", Check.INDEX, y -> y.awardAt(3, 0)),
            new Refusal("awardAt", Check.ARGUMENT, y -> y.awardAt(0, 2)),
            new Refusal("averageHours", Check.ARITHMETIC, WholeSentences::shiftsInAllPlaces,
                    ShiftMarket::averageHours),
            new Refusal("coveredShare", Check.ARITHMETIC, WholeSentences::workersInAllPlaces,
                    ShiftMarket::coveredShare),
            new Refusal("undo", Check.STATE, WholeSentences::allTakenBack, ShiftMarket::undo),
            new Refusal("restore", Check.STATE, WholeSentences::nothingSaved, ShiftMarket::restore));

    private WholeSentences() {
    }

    private static ShiftMarket withFullText() {
        ShiftMarket x = Check.busy();
        for (int length = x.appendCharacter(';'); length < 80; length++) {
            x.appendCharacter('b');
        }
        return x;
    }

    private static ShiftMarket allHold() {
        ShiftMarket x = Check.busy();
        x.award(2, 3);
        Check.thrownBy(x, y -> y.award(0, 0));
        return x;
    }

    private static ShiftMarket withTextAndFault(ShiftMarket x) {
        x.save();
        Check.append(x, "b0,0,1;?");
        Check.thrownBy(x, ShiftMarket::addItems);
        Check.append(x, "w1,1,1,1,1");
        return x;
    }

    private static ShiftMarket shiftsInAllPlaces() {
        return withTextAndFault(Edges.shiftsAlone());
    }

    private static ShiftMarket workersInAllPlaces() {
        return withTextAndFault(Edges.workersAlone());
    }

    private static ShiftMarket allTakenBack() {
        ShiftMarket x = Check.busy();
        for (int count = 0; count < 8; count++) {
            x.undo();
        }
        return x;
    }

    private static ShiftMarket nothingSaved() {
        ShiftMarket x = Check.free();
        x.award(1, 1);
        Check.thrownBy(x, y -> y.award(1, 1));
        Check.append(x, "b0,0,10");
        Check.thrownBy(x, ShiftMarket::addItems);
        Check.append(x, "b0,0,1");
        return x;
    }

    private static ShiftMarket withoutText() {
        ShiftMarket x = Check.busy();
        x.addItems();
        return x;
    }

    static void promise01ANewObjectIsAMarketForShifts() {
        Edges.says("A market for shifts: workers with skills and limits bid for shifts, which are awarded in rounds by"
                + " seniority under rules for overlaps, rest, hours and days in a row; awards are revoked, exchanged"
                + " between two or three workers, and guaranteed for shifts; it is told why something is refused and"
                + " what the best set for a worker would be; further texts, accounts, and changes that can be taken"
                + " back.");
        ShiftMarket x = new ShiftMarket();
        Check.append(x, "w1,8,16,2,1;w2,8,16,2,1;w3,8,16,2,3");
        Check.equal("three workers of a text", "3 2", Check.row(x.addItems(), x.order(0)));
        Check.append(x, "s0,6,8,0,1;s0,14,8,0,1;s1,6,8,0,1;s2,6,8,1,1");
        Check.equal("four shifts of a text", "4 15", Check.row(x.addItems(), x.openShifts()));
        for (int worker = 0; worker < 3; worker++) {
            x.setBid(worker, 0, 9);
            x.setBid(worker, 1, 8);
            x.setBid(worker, 2, 7);
        }
        Check.equal("the best set of worker 0", "5 16", Check.row(x.bestSet(0), x.bestPoints(0)));
        Check.equal("the rounds", "3 2:0 1:1 0:2", x.runAll() + " " + Check.awardsOf(x));
        Check.equal("refused", "UnsupportedOperationException 2 1 0", Check.thrownBy(x, y -> y.award(0, 3)) + " "
                + Check.reasonOf(x));
        x.award(2, 3);
        x.exchange(2, 0, 1, 1);
        Check.equal("exchanged by two", "1:0 2:1 0:2 2:3", Check.awardsOf(x));
        x.rotate(0, 2, 1, 0, 2, 1);
        Check.equal("exchanged by three", "2:0 0:1 1:2 2:3", Check.awardsOf(x));
        x.setGuarantee(3, 1);
        Check.equal("guaranteed", "UnsupportedOperationException 8 1 2", Check.thrownBy(x, y -> y.revoke(2, 3)) + " "
                + Check.reasonOf(x));
        Check.equal("revoked", "0 1", Check.row(x.revoke(0, 1), x.awardAt(1, 0)));
        Check.equal("the accounts", "8.0 0.75 true", x.averageHours() + " " + x.coveredShare() + " " + x.isLegal());
        Check.equal("taken back", "7 2:0 0:1 1:2 2:3", x.undo() + " " + Check.awardsOf(x));
    }

    static void promise01ANewObjectFor512Calls() {
        Edges.says("An object is used for at most 512 calls after it has been made; what later calls answer is free.");
        ShiftMarket x = new ShiftMarket();
        x.addWorker(0, 0, 168, 28, 15);
        x.addShift(0, 0, 1, 0, 1);
        for (int call = 3; call <= 512; call += 3) {
            int points = 1 + call / 3 % 9;
            Check.equal("calls " + call + " to " + (call + 2), Check.row(call == 3 ? 0 : points == 1 ? 9 : points - 1,
                    1, 0), Check.row(x.setBid(0, 0, points), x.runAll(), x.revoke(0, 0)));
        }
    }

    static void promise01ANewObjectForTheDearestCall512Times() {
        Edges.says("An object is used for at most 512 calls after it has been made");
        ShiftMarket x = Check.full();
        for (int shift = 0; shift < 8; shift++) {
            x.setBid(9, shift, 1 + shift);
        }
        for (int call = 35; call <= 512; call++) {
            Check.equal("call " + call, 36, x.bestPoints(9));
        }
    }

    static void promise01ANewObjectLeftByExceptions() {
        Edges.says("A call that throws an exception leaves the state unchanged, except that the text, its fault"
                + " position, the failure and the reason are treated as described.");
        TreeSet<String> due = new TreeSet<>();
        TreeSet<String> refused = new TreeSet<>();
        for (Method method : ShiftMarket.class.getDeclaredMethods()) {
            for (Class<?> type : method.getExceptionTypes()) {
                boolean asked = Modifier.isPublic(method.getModifiers()) && !method.getName().equals("addItems");
                if (asked) {
                    due.add(method.getName() + " " + type.getSimpleName());
                }
            }
        }
        for (Refusal refusal : REFUSALS) {
            refused.add(refusal.method + " " + refusal.due.getSimpleName());
            Check.refuses(refusal.method, refusal.due, refusal.recipe, refusal.act);
        }
        Check.equal("each exception of each call, but for addItems", due, refused);
        Check.refusesItems("addItems", Check.ARGUMENT, WholeSentences::withoutText, "w1,1,1,1,1;s1,1,1,1,1;b3,4,1;");
        Check.refusesItems("addItems", Check.STATE, WholeSentences::withoutText, "w1,1,1,1,1;s1,1,1,1,1;b3,5,1");
    }
}
