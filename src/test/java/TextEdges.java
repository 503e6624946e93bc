/** The edges of promises 5 to 8: characters, items, the fault position, and the item that failed. */
final class TextEdges {
    private static final String SHORT = "b0,0,1;";

    private TextEdges() {
    }

    /** An empty text, and a fault of the text before it. */
    private static ShiftMarket afterAFault() {
        ShiftMarket x = Check.free();
        x.save();
        x.setBid(2, 2, 2);
        Check.append(x, "b0,0,1;x");
        Check.thrownBy(x, ShiftMarket::addItems);
        Check.thrownBy(x, y -> y.exchange(0, 0, 1, 1));
        return x;
    }

    /** An empty text, and an item of the text before it that failed. */
    private static ShiftMarket afterAFailure() {
        ShiftMarket x = Check.free();
        Check.append(x, "b0,0,1;b0,1,1;b0,4,1");
        Check.thrownBy(x, ShiftMarket::addItems);
        return x;
    }

    private static ShiftMarket withText(String text) {
        ShiftMarket x = Check.free();
        Check.append(x, text);
        return x;
    }

    private static String repeated(String text, int count) {
        return new String(new char[count]).replace("\0", text);
    }

    private static void faultAt(int due, String text) {
        for (Check.Recipe recipe : new Check.Recipe[] {TextEdges::afterAFault, TextEdges::afterAFailure}) {
            Check.refusesItems(text, Check.ARGUMENT, recipe, text);
            ShiftMarket x = recipe.make();
            Check.append(x, text);
            Check.thrownBy(x, ShiftMarket::addItems);
            Check.equal("the fault of " + text, due + " -1", Check.readingOf(x));
            Check.equal("the text after " + text, 1, x.appendCharacter('b'));
        }
    }

    private static void failsAt(int due, String text) {
        failsAt(due, Check::free, text);
        failsAt(due, TextEdges::afterAFault, text);
    }

    private static void failsAt(int due, Check.Recipe recipe, String text) {
        Check.refusesItems(text, Check.STATE, recipe, text);
        ShiftMarket x = recipe.make();
        Check.append(x, text);
        Check.thrownBy(x, ShiftMarket::addItems);
        Check.equal("the failure of " + text, "-1 " + due, Check.readingOf(x));
        Check.equal("the text after " + text, 1, x.appendCharacter('b'));
    }

    private static ShiftMarket carriedOut(int items, String text) {
        ShiftMarket x = afterAFault();
        Check.append(x, text);
        Check.equal(text, items + " -1 -1", x.addItems() + " " + Check.readingOf(x));
        Check.equal("the text after " + text, 1, x.appendCharacter('b'));
        return x;
    }

    // ---- promise 5: appendCharacter

    static void promise05AppendCharacterCodes() {
        Edges.says("character: the character code, 33 to 126");
        for (int code = 33; code <= 126; code++) {
            Check.equal("code " + code, 1, new ShiftMarket().appendCharacter(code));
        }
    }

    static void promise05AppendCharacterOutOfRange() {
        Edges.says("Throws IllegalArgumentException if character is not from 33 to 126");
        Edges.refusesOutside("code", 33, 126, Check.ARGUMENT, Check::busy, ShiftMarket::appendCharacter);
        for (int wrong : new int[] {-1, 0, 10, 255, 256 + 'b', 65536 + 'b'}) {
            Check.refuses("code " + wrong, Check.ARGUMENT, Check::busy, y -> y.appendCharacter(wrong));
        }
        ShiftMarket x = withText("b0,0,");
        Check.thrownBy(x, y -> y.appendCharacter(32));
        Check.equal("the length after one that was refused", 6, x.appendCharacter('1'));
    }

    static void promise05AppendCharacterLengths() {
        Edges.says("There is a text of at most 80 characters, which is empty at first.");
        ShiftMarket x = new ShiftMarket();
        for (int length = 1; length <= 80; length++) {
            Check.equal("length", length, x.appendCharacter(33 + length));
        }
        Check.equal("the 81st", "IllegalStateException", Check.thrownBy(x, y -> y.appendCharacter('b')));
        Check.thrownBy(x, ShiftMarket::addItems);
        for (int length = 1; length <= 80; length++) {
            Check.equal("length, once more", length, x.appendCharacter('b'));
        }
    }

    static void promise05AppendCharacterFull() {
        Edges.says("Throws IllegalStateException if the text has 80 characters");
        Check.refuses("the 81st", Check.STATE, TextEdges::fullText, y -> y.appendCharacter('1'));
        Check.refuses("the 81st, ;", Check.STATE, TextEdges::fullText, y -> y.appendCharacter(';'));
        ShiftMarket x = fullText();
        Check.thrownBy(x, y -> y.appendCharacter('1'));
        Check.equal("the text is read as it was", "11 -1 2", Check.row(x.addItems(), x.faultPosition(), x.bid(0, 0)));
    }

    /** 80 characters, and 11 items, the most that a text can have. */
    private static ShiftMarket fullText() {
        return withText(repeated(SHORT, 10) + "b00,00,002");
    }

    static void promise05AppendCharacterOrderOfExceptions() {
        Edges.says(Edges.ORDER);
        Edges.refusesOutside("a full text, and code", 33, 126, Check.ARGUMENT, TextEdges::fullText,
                ShiftMarket::appendCharacter);
    }

    // ---- promise 6: addItems

    static void promise06AddItemsEmptyText() {
        Edges.says("It consists of one or more items with a \";\" between two of them.");
        faultAt(0, "");
        faultAt(0, ";");
        faultAt(0, ";b0,0,1");
        faultAt(7, "b0,0,1;;b0,0,1");
        faultAt(7, "b0,0,1;");
        faultAt(6, "b0,0,1b0,0,1");
        faultAt(6, "b0,0,1,b0,0,1");
        ShiftMarket x = carriedOut(1, "b0,0,1");
        Check.equal("one item", 1, x.bid(0, 0));
        Check.equal("two items", "1 9", Check.row(carriedOut(2, "b0,0,1;b0,1,9").bid(0, 0),
                carriedOut(2, "b0,0,1;b0,1,9").bid(0, 1)));
    }

    static void promise06AddItemsNumberOfDigits() {
        Edges.says("A number is 1 to 3 digits.");
        Check.equal("1 digit", 9, carriedOut(1, "b0,0,9").bid(0, 0));
        Check.equal("2 digits", 9, carriedOut(1, "b02,03,09").bid(2, 3));
        Check.equal("3 digits", 8, carriedOut(1, "b002,003,008").bid(2, 3));
        Check.equal("all digits count", 168, carriedOut(1, "w0,0,168,1,0").worker(3, 2));
        Check.equal("a number of zeros", 0, carriedOut(1, "b000,000,000").bid(0, 0));
        faultAt(1, "b,0,1");
        faultAt(3, "b0,,1");
        faultAt(5, "b0,0,");
        faultAt(5, "b0,0,;b0,0,1");
        faultAt(4, "b0000,0,1");
        faultAt(6, "b0,0000,1");
        faultAt(8, "b0,0,0001");
        faultAt(8, "b0,0,0001;b0,0,1");
        faultAt(1, "b/,0,1");
        faultAt(1, "b:,0,1");
        faultAt(2, "b0/,0,1");
        faultAt(2, "b9:,0,1");
        faultAt(1, "b-1,0,1");
        faultAt(1, "b+1,0,1");
    }

    static void promise06AddItemsNumberOfNumbers() {
        Edges.says("An item is \"w\" and five numbers with a \",\" between two of them, for a worker with seniority,"
                + " rest, hours, days and skills; \"s\" and five likewise");
        faultAt(8, "w0,0,1,1");
        faultAt(8, "w0,0,1,1;b0,0,1");
        faultAt(10, "w0,0,1,1,0,0");
        faultAt(8, "s0,0,1,0");
        faultAt(8, "s0,0,1,0;b0,0,1");
        faultAt(10, "s0,0,1,0,1,0");
        faultAt(4, "b0,0");
        faultAt(4, "b0,0;b0,0,1");
        faultAt(6, "b0,0,1,0");
        faultAt(0, "W0,0,1,1,0");
        faultAt(0, "a0,0,1");
        faultAt(0, "c0,0,1");
        faultAt(0, "v0,0,1,1,0");
        faultAt(0, "t0,0,1,1,0");
        faultAt(1, "w;");
        ShiftMarket x = carriedOut(3, "w99,24,168,28,15;s27,23,12,3,3;b3,4,9");
        Check.equal("what they made", "99 24 168 28 15 27 23 12 3 3 9", Check.row(x.worker(3, 0), x.worker(3, 1),
                x.worker(3, 2), x.worker(3, 3), x.worker(3, 4), x.shift(4, 0), x.shift(4, 1), x.shift(4, 2),
                x.shift(4, 3), x.shift(4, 4), x.bid(3, 4)));
    }

    static void promise06AddItemsFault() {
        Edges.says("Throws IllegalArgumentException if the text has a fault");
        faultAt(79, repeated(SHORT, 11) + "b0x");
        faultAt(79, repeated(SHORT, 10) + "b00,00,00x");
        faultAt(1, "b" + repeated("x", 79));
        faultAt(0, repeated("!", 80));
    }

    private static void itemsLike(String least, String most, String... beyond) {
        carriedOut(1, least);
        carriedOut(1, most);
        for (String item : beyond) {
            failsAt(0, item);
            failsAt(1, "b0,0,1;" + item);
            failsAt(0, item + ";b0,0,1");
        }
    }

    static void promise06AddItemsLikeAddWorker() {
        Edges.says("An item is carried out like addWorker, addShift or setBid.");
        itemsLike("w0,0,1,1,0", "w99,24,168,28,15", "w100,0,1,1,0", "w0,25,1,1,0", "w0,0,0,1,0",
                "w0,0,169,1,0", "w0,0,1,0,0", "w0,0,1,29,0", "w0,0,1,1,16", "w999,999,999,999,999", "w0,0,0,0,0");
    }

    static void promise06AddItemsLikeAddShift() {
        Edges.says("An item is carried out like addWorker, addShift or setBid.");
        itemsLike("s0,0,1,0,1", "s27,23,12,3,3", "s28,0,1,0,1", "s0,24,1,0,1", "s0,0,0,0,1", "s0,0,13,0,1",
                "s0,0,1,4,1", "s0,0,1,0,0", "s0,0,1,0,4", "s999,999,999,999,999", "s0,0,0,0,0");
    }

    static void promise06AddItemsLikeSetBid() {
        Edges.says("An item is carried out like addWorker, addShift or setBid.");
        itemsLike("b0,0,0", "b2,3,9", "b3,0,1", "b0,4,1", "b0,0,10", "b999,0,1", "b0,999,1", "b0,0,999");
        failsAt(1, "b2,3,0;b3,0,0");
        Check.equal("a worker and a shift of the text itself", 9,
                carriedOut(3, "w0,0,1,1,0;s0,0,1,0,1;b3,4,9").bid(3, 4));
        failsAt(0, "b3,0,9;w0,0,1,1,0");
    }

    static void promise06AddItemsFailure() {
        Edges.says("Throws IllegalStateException if an item cannot be carried out");
        Check.Recipe emptied = () -> {
            ShiftMarket x = Check.crowded();
            x.addItems();
            return x;
        };
        failsAt(0, emptied, "w0,0,1,1,0");
        failsAt(0, emptied, "s0,0,1,0,1");
        failsAt(0, emptied, "b4,8,1");
        failsAt(1, emptied, "b4,8,0;b4,15,9");
        failsAt(0, emptied, "b10,0,1");
        failsAt(0, emptied, "b0,16,1");
        ShiftMarket x = emptied.make();
        Check.append(x, "b4,0,9;b4,0,0;b4,15,1");
        Check.equal("a bid in place of another", "3 8 1", Check.row(x.addItems(), x.worker(4, 5), x.bid(4, 15)));
    }

    static void promise06AddItemsUpToTheFullMarket() {
        Edges.says("Throws IllegalStateException if an item cannot be carried out");
        String worker = "w0,0,1,1,0;";
        String shift = "s0,0,1,0,1;";
        Check.equal("workers 3 to 9", 10, carriedOut(7, repeated(worker, 6) + "w0,0,1,1,0").workerCount());
        Check.equal("shifts 4 to 10", 11, carriedOut(7, repeated(shift, 6) + "s0,0,1,0,1").shiftCount());
        Check.Recipe nine = () -> {
            ShiftMarket x = Check.free();
            for (int count = 0; count < 6; count++) {
                x.addWorker(0, 0, 1, 1, 0);
                x.addShift(0, 0, 1, 0, 1);
                x.addShift(0, 0, 1, 0, 1);
            }
            x.undo();
            return x;
        };
        failsAt(1, nine, worker + worker + "b0,0,1");
        failsAt(1, nine, shift + shift + "b0,0,1");
        failsAt(8, nine, "b0,0,1;b0,1,1;b0,2,1;b0,3,1;b0,4,1;b0,5,1;b0,6,1;b0,7,1;b0,8,1");
    }

    static void promise06AddItemsEmptiesTheText() {
        Edges.says("The text is emptied also if an exception is thrown.");
        ShiftMarket x = withText("!");
        Check.thrownBy(x, ShiftMarket::addItems);
        Check.equal("after a fault", "IllegalArgumentException 0", Check.thrownBy(x, ShiftMarket::addItems) + " "
                + x.faultPosition());
        Check.append(x, "b0,0,10");
        Check.thrownBy(x, ShiftMarket::addItems);
        Check.equal("after a failure", "IllegalArgumentException 0", Check.thrownBy(x, ShiftMarket::addItems) + " "
                + x.faultPosition());
        Check.append(x, "b0,0,9");
        x.addItems();
        Check.equal("after neither", "IllegalArgumentException 0", Check.thrownBy(x, ShiftMarket::addItems) + " "
                + x.faultPosition());
        // A longer text before a shorter one leaves none of its items.
        Check.append(x, "b0,0,1;b1,1,1;b2,2,2");
        x.addItems();
        x.undo();
        Check.append(x, "b0,1,3");
        Check.equal("one item", "1 0 3", Check.row(x.addItems(), x.bid(1, 1), x.bid(0, 1)));
    }

    static void promise06AddItemsAllOrNothing() {
        Edges.says("If one of them throws an exception, nothing of the text stays carried out.");
        failsAt(3, "w1,1,1,1,1;s1,1,1,1,1;b3,4,5;b0,0,10");
        failsAt(10, repeated(SHORT, 10) + "b0,0,10");
        failsAt(0, "b0,0,10;" + repeated(SHORT, 9) + "b0,0,1");
    }

    static void promise06AddItemsNumberOfItems() {
        Edges.says("Returns the number of items.");
        for (int count = 0; count <= 10; count++) {
            carriedOut(count + 1, repeated(SHORT, count) + "b0,0,1");
        }
        Check.equal("of 80 characters", 11, fullText().addItems());
        carriedOut(4, "w99,24,168,28,15;s27,23,12,3,3;w00,00,001,01,000;b04,004,009");
    }

    static void promise06AddItemsOrderOfExceptions() {
        Edges.says(Edges.ORDER);
        faultAt(8, "b0,0,10;");
        faultAt(16, "b9,9,9;w0,0,0,0,x");
        faultAt(80, "b0,0,10;" + repeated(SHORT, 10) + "b0");
    }

    // ---- promises 7 and 8: faultPosition and failedItem

    static void promise07FaultPositionOrNone() {
        Edges.says("Returns the fault position, or -1 if that text had no fault or no text was read.");
        ShiftMarket x = new ShiftMarket();
        Check.equal("no text", -1, x.faultPosition());
        x.appendCharacter('!');
        Check.equal("no text was read", -1, x.faultPosition());
        Check.thrownBy(x, ShiftMarket::addItems);
        Check.equal("the first character", 0, x.faultPosition());
        Check.append(x, "w0,0,1,1,0");
        Check.equal("before the next text is read", 0, x.faultPosition());
        x.addItems();
        Check.equal("no fault", -1, x.faultPosition());
        Check.append(x, "w0,0,1,1,");
        Check.thrownBy(x, ShiftMarket::addItems);
        Check.append(x, "b0,0,1");
        Check.thrownBy(x, ShiftMarket::addItems);
        Check.equal("no fault, but a failure", -1, x.faultPosition());
    }

    static void promise07FaultPositionPlaces() {
        Edges.says("The fault position of a text is the index of the first character that cannot continue such a text;"
                + " it is the length of the text if the text ends too early.");
        faultAt(0, "x;x;x");
        faultAt(1, "b");
        faultAt(2, "b0");
        faultAt(3, "b0,");
        faultAt(1, "bx");
        faultAt(3, "b0,x");
        faultAt(6, "b0,0,1x");
        faultAt(7, "b0,0,1;x");
        faultAt(8, "b0,0,1;b");
        faultAt(79, repeated(SHORT, 11) + "b0");
        faultAt(80, repeated(SHORT, 11) + "b0,");
        faultAt(80, repeated(SHORT, 10) + "b00,00,01;");
        faultAt(79, repeated(SHORT, 10) + "b00,00,01!");
    }

    static void promise08FailedItemOrNone() {
        Edges.says("Returns the number of the item, from 0, or -1 if there was none, also if the text had a fault or no"
                + " text was read.");
        ShiftMarket x = new ShiftMarket();
        Check.equal("no text", -1, x.failedItem());
        Check.append(x, "b0,0,1");
        Check.equal("no text was read", -1, x.failedItem());
        Check.thrownBy(x, ShiftMarket::addItems);
        Check.equal("the first item", 0, x.failedItem());
        Check.append(x, "w0,0,1,1,0;");
        Check.equal("before the next text is read", 0, x.failedItem());
        Check.thrownBy(x, ShiftMarket::addItems);
        Check.equal("a fault", -1, x.failedItem());
        Check.append(x, "w0,0,1,1,0;b0,0,1");
        Check.thrownBy(x, ShiftMarket::addItems);
        Check.equal("the last item of two", 1, x.failedItem());
        Check.append(x, "w0,0,1,1,0");
        x.addItems();
        Check.equal("none", -1, x.failedItem());
    }

    static void promise08FailedItemTheFirstOfSeveral() {
        Edges.says("Returns the number of the item, from 0");
        failsAt(0, "b9,0,1;b9,0,1");
        failsAt(1, "b0,0,1;b9,0,1;b0,0,1;b9,0,1");
        for (int item = 0; item <= 10; item++) {
            failsAt(item, (repeated(SHORT, item) + "b0,9,1;" + repeated(SHORT, 10 - item)).substring(0, 76));
        }
    }
}
