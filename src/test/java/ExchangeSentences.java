/** What promises 23 to 25 say of ordinary calls, a test for each sentence. */
final class ExchangeSentences {
    private ExchangeSentences() {
    }

    /** Five workers whom nothing limits; worker w holds the shifts w and w + 5, which need one worker. */
    private static ShiftMarket holders() {
        ShiftMarket x = new ShiftMarket();
        for (int worker = 0; worker < 5; worker++) {
            x.addWorker(0, 0, 168, 28, 15);
        }
        for (int day = 0; day < 10; day++) {
            x.addShift(day, 8, 8, 0, 1);
        }
        for (int shift = 0; shift < 10; shift++) {
            x.award(shift % 5, shift);
        }
        return x;
    }

    /** Four workers with different limits, who hold what they can of twelve shifts that are close to one another. */
    private static ShiftMarket limited() {
        ShiftMarket x = new ShiftMarket();
        x.addWorker(0, 0, 168, 28, 1);
        x.addWorker(0, 12, 168, 28, 3);
        x.addWorker(0, 0, 20, 28, 3);
        x.addWorker(0, 0, 168, 2, 3);
        for (int shift = 0; shift < 12; shift++) {
            x.addShift(shift / 2, 6 + 5 * (shift % 2), 4 + shift % 5, shift % 3 == 0 ? 1 : 0, 2);
        }
        for (int index = 0; index < 48; index++) {
            int worker = index % 4;
            int shift = index * 5 % 12;
            Check.thrownBy(x, y -> y.award(worker, shift));
        }
        return x;
    }

    private static String heldOf(ShiftMarket x) {
        return Check.row(x.held(0), x.held(1), x.held(2), x.held(3), x.held(4));
    }

    /** What the five workers of holders hold after a worker gets the one shift in place of the other one. */
    private static void moves(int[] held, int worker, int given, int gotten) {
        held[worker] += (1 << gotten) - (1 << given);
    }

    private static int[] heldAtFirst() {
        int[] held = new int[5];
        for (int worker = 0; worker < 5; worker++) {
            held[worker] = (1 << worker) + (1 << worker + 5);
        }
        return held;
    }

    // ---- promise 23: exchange

    static void promise23ExchangeOfEachTwo() {
        Edges.says("In an exchange of two, a worker gives a shift to another worker and gets one from that worker;");
        Edges.says("Makes an exchange of two: the first worker gives a shift and gets the other one.");
        Edges.says("worker: the first worker");
        Edges.says("shift: the shift of the first worker");
        Edges.says("other: the other worker");
        Edges.says("otherShift: the shift of the other worker");
        for (int shift = 0; shift < 10; shift++) {
            for (int other = 0; other < 10; other++) {
                if (shift % 5 != other % 5) {
                    ShiftMarket x = holders();
                    x.exchange(shift % 5, shift, other % 5, other);
                    int[] due = heldAtFirst();
                    moves(due, shift % 5, shift, other);
                    moves(due, other % 5, other, shift);
                    Check.equal("the shifts " + shift + " and " + other, Check.row(due), heldOf(x));
                    Check.equal("their holders", Check.row(1 << other % 5, 1 << shift % 5),
                            Check.row(x.holders(shift), x.holders(other)));
                }
            }
        }
    }

    static void promise23ExchangeAndBack() {
        Edges.says("the first worker gives a shift and gets the other one");
        ShiftMarket x = holders();
        String before = Check.stateOf(x);
        x.exchange(1, 6, 4, 4);
        Check.equal("a difference", false, before.equals(Check.stateOf(x)));
        x.exchange(1, 4, 4, 6);
        Check.equal("and back", before, Check.stateOf(x));
        x.exchange(1, 6, 4, 4);
        x.exchange(4, 6, 1, 4);
        Check.equal("and back, the other way round", before, Check.stateOf(x));
    }

    // ---- promise 24: rotate

    private static void rotates(int firstShift, int secondShift, int thirdShift) {
        ShiftMarket x = holders();
        x.rotate(firstShift % 5, firstShift, secondShift % 5, secondShift, thirdShift % 5, thirdShift);
        int[] due = heldAtFirst();
        moves(due, firstShift % 5, firstShift, thirdShift);
        moves(due, secondShift % 5, secondShift, firstShift);
        moves(due, thirdShift % 5, thirdShift, secondShift);
        Check.equal("the shifts " + Check.row(firstShift, secondShift, thirdShift), Check.row(due), heldOf(x));
    }

    static void promise24RotateOfEachThree() {
        Edges.says("in an exchange of three, the first worker gives a shift to the second one, who gives one to the"
                + " third one, who gives one to the first one.");
        Edges.says("Makes an exchange of three.");
        Edges.says("first: the first worker");
        Edges.says("firstShift: the shift that the first worker gives to the second one");
        Edges.says("second: the second worker");
        Edges.says("secondShift: the shift that the second worker gives to the third one");
        Edges.says("third: the third worker");
        Edges.says("thirdShift: the shift that the third worker gives to the first one");
        for (int index = 0; index < 1000; index++) {
            int first = index / 100;
            int second = index / 10 % 10;
            int third = index % 10;
            if (first % 5 != second % 5 && second % 5 != third % 5 && third % 5 != first % 5) {
                rotates(first, second, third);
            }
        }
    }

    static void promise24RotateThreeTimes() {
        Edges.says("Makes an exchange of three.");
        ShiftMarket x = holders();
        String before = Check.awardsOf(x);
        x.rotate(0, 0, 3, 8, 2, 2);
        Check.equal("once", "3:0 1:1 0:2 3:3 4:4 0:5 1:6 2:7 2:8 4:9", Check.awardsOf(x));
        x.rotate(3, 0, 2, 8, 0, 2);
        Check.equal("twice", "2:0 1:1 3:2 3:3 4:4 0:5 1:6 2:7 0:8 4:9", Check.awardsOf(x));
        x.rotate(2, 0, 0, 8, 3, 2);
        Check.equal("as before", before, Check.awardsOf(x));
    }

    // ---- promise 25: partner

    /** The partner and the shift that the worker gives, found by trying all exchanges; or none. */
    private static String tried(int worker, int shift) {
        for (int other = 0; other < 4; other++) {
            for (int given = 0; given < 12; given++) {
                ShiftMarket x = limited();
                int partner = other;
                int gives = given;
                if (Check.thrownBy(x, y -> y.exchange(worker, gives, partner, shift)).equals("nothing")) {
                    return other + " " + given;
                }
            }
        }
        return "NoSuchElementException";
    }

    static void promise25PartnerIsTheFirstExchangeThatIsPossible() {
        Edges.says("Looks for a possible exchange of two in which a worker gets a shift: with the partner with the"
                + " lowest number, and of several the shift given that has the lowest number; the shift given can be"
                + " the same one.");
        Edges.says("worker: the number of the worker");
        Edges.says("shift: the number of the shift");
        Edges.says("Returns the number.");
        ShiftMarket x = limited();
        String before = Check.stateOf(x) + Check.reasonOf(x);
        int found = 0;
        for (int index = 0; index < 48; index++) {
            int worker = index / 12;
            int shift = index % 12;
            String due = tried(worker, shift);
            boolean none = due.startsWith("No");
            found += none ? 0 : 1;
            Check.equal("worker " + worker + ", shift " + shift, due, none
                    ? Check.thrownBy(x, y -> y.partner(worker, shift, 0))
                    : Check.row(x.partner(worker, shift, 0), x.partner(worker, shift, 1)));
        }
        Check.equal("some are found, some are not", true, found > 10 && found < 38);
        Check.equal("nothing is different after it", before, Check.stateOf(x) + Check.reasonOf(x));
    }
}
