/** Promises 5 to 8: the text, its fault position, and the item that failed. */
public final class TextTest {
    public static void main(String[] args) {
        appendCharacter();
        items();
        faults();
        failures();
        itemsAreOneChange();
        Check.end("TextTest");
    }

    private static void appendCharacter() {
        ShiftMarket x = new ShiftMarket();
        Check.equal("new lengths", "1 2 3", Check.row(x.appendCharacter(33), x.appendCharacter(126),
                x.appendCharacter(';')));
        int length = 3;
        for (int wrong : new int[] {32, 127, -1, 0, 48 + 65536, Integer.MIN_VALUE, Integer.MAX_VALUE}) {
            Check.refuses("character " + wrong, Check.ARGUMENT, Check::free, y -> y.appendCharacter(wrong));
            Check.refuses("character " + wrong + " at a full text", Check.ARGUMENT, TextTest::fullText,
                    y -> y.appendCharacter(wrong));
            Check.thrownBy(x, y -> y.appendCharacter(wrong));
            Check.equal("the length after a refused character", length + 1, x.appendCharacter('a'));
            length++;
        }
        Check.refuses("the 81st character", Check.STATE, TextTest::fullText, y -> y.appendCharacter('0'));
        ShiftMarket full = fullText();
        Check.thrownBy(full, y -> y.appendCharacter('1'));
        Check.equal("a text of 80 characters is read", "11 -1", Check.row(full.addItems(), full.faultPosition()));
        Check.equal("characters are no change", "IllegalStateException", Check.thrownBy(x, ShiftMarket::undo));
    }

    /** 11 items, the most that a text can have, in exactly 80 characters. */
    private static ShiftMarket fullText() {
        ShiftMarket x = Check.free();
        for (int count = 0; count < 8; count++) {
            Check.append(x, "b0,0,1;");
        }
        Check.append(x, "b00,0,1;b00,0,1;b00,0,02");
        return x;
    }

    private static void items() {
        ShiftMarket x = new ShiftMarket();
        Check.append(x, "w99,24,168,28,15;w000,00,001,1,0;s27,23,12,3,3;b0,0,9;s0,0,1,0,1;b1,001,2");
        Check.equal("the number of items", 6, x.addItems());
        Check.equal("what the items made", "2 2 9 2 0 -1 -1", Check.row(x.workerCount(), x.shiftCount(), x.bid(0, 0),
                x.bid(1, 1), x.bid(0, 1), x.faultPosition(), x.failedItem()));
        Check.equal("the workers", "99 24 168 28 15 0 0 1 1 0", Check.row(x.worker(0, 0), x.worker(0, 1),
                x.worker(0, 2), x.worker(0, 3), x.worker(0, 4), x.worker(1, 0), x.worker(1, 1), x.worker(1, 2),
                x.worker(1, 3), x.worker(1, 4)));
        Check.equal("the shifts", "27 23 12 3 3 0 0 1 0 1", Check.row(x.shift(0, 0), x.shift(0, 1), x.shift(0, 2),
                x.shift(0, 3), x.shift(0, 4), x.shift(1, 0), x.shift(1, 1), x.shift(1, 2), x.shift(1, 3),
                x.shift(1, 4)));
        Check.append(x, "b0,0,0");
        Check.equal("a bid taken back by an item", "1 0 0", Check.row(x.addItems(), x.bid(0, 0), x.worker(0, 5)));
        Check.equal("the text is empty after it", 1, x.appendCharacter('w'));
    }

    private static void faultAt(int due, String text) {
        Check.refusesItems("addItems of " + text, Check.ARGUMENT, Check::free, text);
        ShiftMarket x = Check.free();
        Check.append(x, text);
        Check.equal("addItems of " + text, "IllegalArgumentException", Check.thrownBy(x, ShiftMarket::addItems));
        Check.equal("the fault of " + text, due + " -1", Check.row(x.faultPosition(), x.failedItem()));
        Check.equal("the text after " + text, 1, x.appendCharacter('b'));
    }

    private static void faults() {
        faultAt(0, "");
        faultAt(0, ";");
        faultAt(0, "x");
        faultAt(0, "W1,2,3,4,5");
        faultAt(0, "0");
        faultAt(1, "w");
        faultAt(1, "w,");
        faultAt(1, "b-1,0,0");
        faultAt(2, "w1");
        faultAt(2, "w1;");
        faultAt(3, "w1,,");
        faultAt(4, "w1234,2,3,4,5");
        faultAt(4, "w123:");
        faultAt(2, "w1/");
        faultAt(2, "b1:");
        faultAt(9, "w1,2,3,4,");
        faultAt(8, "w1,2,3,4");
        faultAt(8, "w1,2,3,4;");
        faultAt(10, "w1,2,3,4,5,6");
        faultAt(12, "s1,2,3,4,5670");
        faultAt(6, "b0,0,1,2");
        faultAt(5, "b0,0,");
        faultAt(4, "b0,0;");
        faultAt(7, "b0,0,1;");
        faultAt(7, "b0,0,1;;");
        faultAt(7, "b0,0,1;,");
        faultAt(6, "b0,0,1b0,0,1");
        faultAt(8, "b0,0,1;w");
        faultAt(80, "b0,0,1;b0,0,1;b0,0,1;b0,0,1;b0,0,1;b0,0,1;b0,0,1;b0,0,1;b0,0,1;b0,0,1;b0,0,1;b0,");
        // The fault counts first, whatever the items before it would do.
        faultAt(8, "b9,9,10;");
    }

    private static void failsAt(int due, String text) {
        Check.refusesItems("addItems of " + text, Check.STATE, Check::free, text);
        ShiftMarket x = Check.free();
        Check.append(x, text);
        Check.equal("addItems of " + text, "IllegalStateException", Check.thrownBy(x, ShiftMarket::addItems));
        Check.equal("the failure of " + text, "-1 " + due, Check.row(x.faultPosition(), x.failedItem()));
        Check.equal("the text after " + text, 1, x.appendCharacter('b'));
    }

    private static void failures() {
        failsAt(0, "w100,0,1,1,0");
        failsAt(0, "w0,25,1,1,0");
        failsAt(0, "w0,0,0,1,0");
        failsAt(0, "w0,0,169,1,0");
        failsAt(0, "w0,0,1,29,0");
        failsAt(0, "w0,0,1,1,16");
        failsAt(0, "s28,0,1,0,1");
        failsAt(0, "s0,24,1,0,1");
        failsAt(0, "s0,0,13,0,1");
        failsAt(0, "s0,0,1,4,1");
        failsAt(0, "s0,0,1,0,4");
        failsAt(0, "b3,0,1");
        failsAt(0, "b0,4,1");
        failsAt(0, "b0,0,10");
        failsAt(1, "b0,0,9;b0,0,10;b9,9,9");
        failsAt(3, "w1,1,1,1,1;s1,1,1,1,1;b3,4,5;b3,5,5");
        ShiftMarket x = Check.full();
        Check.append(x, "w0,0,1,1,0");
        Check.equal("the eleventh worker", "IllegalStateException", Check.thrownBy(x, ShiftMarket::addItems));
        Check.append(x, "s0,0,1,0,1");
        Check.equal("the seventeenth shift", "IllegalStateException", Check.thrownBy(x, ShiftMarket::addItems));
        Check.append(x, "b0,0,1;b0,1,1;b0,2,1;b0,3,1;b0,4,1;b0,5,1;b0,6,1;b0,7,1;b0,8,1");
        Check.equal("the ninth bid", "IllegalStateException", Check.thrownBy(x, ShiftMarket::addItems));
        Check.equal("nothing stays of it", "8 0 10 16", Check.row(x.failedItem(), x.worker(0, 5), x.workerCount(),
                x.shiftCount()));
        Check.append(x, "!");
        Check.equal("a fault after a failure", "IllegalArgumentException 0 -1",
                Check.thrownBy(x, ShiftMarket::addItems) + " " + Check.row(x.faultPosition(), x.failedItem()));
        Check.append(x, "b10,0,1");
        Check.equal("a failure after a fault", "IllegalStateException -1 0",
                Check.thrownBy(x, ShiftMarket::addItems) + " " + Check.row(x.faultPosition(), x.failedItem()));
        Check.append(x, "b9,0,1");
        Check.equal("neither of them", "1 -1 -1", Check.row(x.addItems(), x.faultPosition(), x.failedItem()));
    }

    private static void itemsAreOneChange() {
        ShiftMarket x = Check.free();
        String before = Check.stateOf(x);
        Check.append(x, "w1,2,3,4,5;s1,2,3,1,1;b3,4,6");
        x.addItems();
        Check.append(x, "!?");
        Check.equal("undo takes all items back", "7 " + before, x.undo() + " " + Check.stateOf(x));
        Check.equal("undo leaves the text and its fault position", "3 -1 -1",
                Check.row(x.appendCharacter('!'), x.faultPosition(), x.failedItem()));
        Check.thrownBy(x, ShiftMarket::addItems);
        Check.append(x, "b0,0,1");
        x.save();
        x.restore();
        x.undo();
        Check.equal("save, restore and undo leave the text and its fault position", "0 -1 7",
                Check.row(x.faultPosition(), x.failedItem(), x.appendCharacter('2')));
        Check.equal("the text that was left", "IllegalStateException 0",
                Check.thrownBy(x, ShiftMarket::addItems) + " " + x.failedItem());
    }
}
