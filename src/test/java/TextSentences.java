/** What promises 5 to 8 say of ordinary calls, a test for each sentence. */
final class TextSentences {
    private TextSentences() {
    }

    private static String read(ShiftMarket x, String text) {
        Check.append(x, text);
        return Check.thrownBy(x, ShiftMarket::addItems) + " " + Check.readingOf(x);
    }

    static void promise05AppendCharacterAtTheEnd() {
        Edges.says("Appends a character to the text.");
        ShiftMarket x = Check.free();
        String text = "b1,2,3;w12,3,45,6,7;s8,9,10,2,1";
        Check.append(x, text);
        Check.equal("the items, in the order of the characters", "3 3 12 3 45 6 7 8 9 10 2 1", Check.row(x.addItems(),
                x.bid(1, 2), x.worker(3, 0), x.worker(3, 1), x.worker(3, 2), x.worker(3, 3), x.worker(3, 4),
                x.shift(4, 0), x.shift(4, 1), x.shift(4, 2), x.shift(4, 3), x.shift(4, 4)));
        for (int index = 0; index < text.length(); index++) {
            Check.equal("a fault in place of character " + index, "IllegalArgumentException " + index + " -1",
                    read(Check.free(), text.substring(0, index) + "~" + text.substring(index + 1)));
        }
    }

    static void promise05AppendCharacterReturnsTheNewLength() {
        Edges.says("Returns the new length of the text.");
        ShiftMarket x = Check.free();
        Check.equal("one character after the other", "1 2 3", Check.row(x.appendCharacter('b'), x.appendCharacter('0'),
                x.appendCharacter(',')));
        x.save();
        x.restore();
        x.undo();
        x.undo();
        Check.equal("other calls leave the text", "4 5 6", Check.row(x.appendCharacter('1'), x.appendCharacter(','),
                x.appendCharacter('9')));
        Check.equal("the text that was read, and a new one", "1 9 1", Check.row(x.addItems(), x.bid(0, 1),
                x.appendCharacter('b')));
    }

    static void promise06AddItemsReadsEmptiesAndCarriesOut() {
        Edges.says("Reads the text, empties it, and carries out its items.");
        ShiftMarket x = Check.free();
        Check.append(x, "b0,0,1;w1,2,3,4,5;b0,0,2;s1,2,3,0,1;b3,4,6");
        Check.equal("nothing before it is read", "0 3 4", Check.row(x.bid(0, 0), x.workerCount(), x.shiftCount()));
        Check.equal("the items, one after the other", "5 2 4 5 6", Check.row(x.addItems(), x.bid(0, 0),
                x.workerCount(), x.shiftCount(), x.bid(3, 4)));
        Check.equal("an item is as good as the call", stateAfterCalls(), Check.stateOf(x));
        Check.equal("the text is empty", 1, x.appendCharacter('b'));
        Check.equal("items are carried out once", 2, x.bid(0, 0));
    }

    private static String stateAfterCalls() {
        ShiftMarket x = Check.free();
        x.setBid(0, 0, 1);
        x.addWorker(1, 2, 3, 4, 5);
        x.setBid(0, 0, 2);
        x.addShift(1, 2, 3, 0, 1);
        x.setBid(3, 4, 6);
        return Check.stateOf(x);
    }

    static void promise07FaultPositionOfTheLatestText() {
        Edges.says("Returns the fault position of the text that was read by the latest call of addItems.");
        ShiftMarket x = Check.free();
        Check.equal("a fault", "IllegalArgumentException 3 -1", read(x, "b0,b0,1"));
        Check.equal("a later one", "IllegalArgumentException 5 -1", read(x, "b0,0,b"));
        Check.equal("an earlier one", "IllegalArgumentException 1 -1", read(x, "b"));
        Check.append(x, "???");
        Check.equal("the text that was not read yet", "1 1", Check.row(x.faultPosition(), x.faultPosition()));
        Check.equal("now it is read", "IllegalArgumentException 0 -1", read(x, ""));
        Check.equal("no fault", "nothing -1 -1", read(x, "b0,0,1"));
        Check.equal("a fault once more", "IllegalArgumentException 6 -1", read(x, "b0,0,1b"));
    }

    static void promise08FailedItemOfTheLatestText() {
        Edges.says("Returns which item could not be carried out by the latest call of addItems.");
        ShiftMarket x = Check.free();
        Check.equal("the third", "IllegalStateException -1 2", read(x, "b0,0,1;b0,1,1;b0,4,1;b0,2,1"));
        Check.equal("the second", "IllegalStateException -1 1", read(x, "b0,0,1;b3,0,1"));
        Check.append(x, "b0,0,10");
        Check.equal("the text that was not read yet", "1 1", Check.row(x.failedItem(), x.failedItem()));
        Check.equal("now it is read", "IllegalStateException -1 0", read(x, ""));
        Check.thrownBy(x, y -> y.setBid(0, 0, 10));
        x.setBid(0, 0, 9);
        x.undo();
        Check.equal("other calls leave it", 0, x.failedItem());
        Check.equal("none", "nothing -1 -1", read(x, "b0,0,1"));
    }
}
