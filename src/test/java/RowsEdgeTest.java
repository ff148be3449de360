/** The edges of promises 1 to 5: a new object, and the ROWS. */
public final class RowsEdgeTest {
    public static void main(String[] args) throws IllegalAccessException {
        Edges.run(RowsEdgeTest.class);
    }

    // ---- promise 1

    private static void promise1allRowsAreMissing() {
        YieldDoors x = new YieldDoors();
        Due.is("count(0)", x.count(0), 0);
        for (int row = 0; row <= 7; row++) {
            Due.is("drop(" + row + ")", x.drop(row), Due.NULL);
        }
    }

    private static void promise1thereIsNoMinistry() {
        YieldDoors x = new YieldDoors();
        Due.is("stuck()", x.stuck(), Due.STATE);
        Due.is("door(0, 0)", x.door(0, 0), Due.STATE);
        Due.is("person(0, 0)", x.person(0, 0), Due.BAD);
        Due.is("DOORS", x.count(1), 0);
        Due.is("PEOPLE", x.count(2), 0);
        Due.is("STEP", x.count(3), 0);
        Due.is("THROUGH", x.count(4), 0);
        Due.is("NOBODY", x.count(5), 0);
    }

    private static void promise1noActCanBeUndone() {
        YieldDoors x = new YieldDoors();
        Due.is("count(6)", x.count(6), 0);
        Due.is("undo()", x.undo(), Due.STATE);
    }

    private static void promise1theTapeIsEmpty() {
        YieldDoors x = new YieldDoors();
        Due.is("count(7)", x.count(7), 0);
        Due.is("feed(0)", x.feed(0), 1);
    }

    private static void promise1noFaultAndNoFinding() {
        YieldDoors x = new YieldDoors();
        Due.is("fault()", x.fault(), 0);
        Due.is("status()", x.status(), 0);
    }

    private static void promise1noImageIsKept() {
        YieldDoors x = new YieldDoors();
        Due.is("restore(0)", x.restore(0), Due.STATE);
        Due.is("restore(1)", x.restore(1), Due.STATE);
    }

    private static void promise1theTraceIsEmpty() {
        YieldDoors x = new YieldDoors();
        for (int i = 0; i < 16; i++) {
            Due.is("trace(" + i + ")", x.trace(i), Due.NONE);
        }
    }

    private static void promise1twoObjectsAreApart() {
        YieldDoors x = new YieldDoors();
        YieldDoors busy = Due.busy();
        Due.alike(x, new YieldDoors());
        Due.is("the other has its PEOPLE", busy.count(2), 6);
    }

    // ---- promise 2

    private static void promise2aRowBelow0IsBad() {
        YieldDoors x = new YieldDoors();
        Due.is("row(-1, 0, 1)", x.row(-1, 0, 1), Due.BAD);
        Due.is("row(least, 0, 1)", x.row(Due.LEAST, 0, 1), Due.BAD);
    }

    private static void promise2aRowAbove7IsBad() {
        YieldDoors x = new YieldDoors();
        Due.is("row(8, 0, 1)", x.row(8, 0, 1), Due.BAD);
        Due.is("row(most, 0, 1)", x.row(Due.MOST, 0, 1), Due.BAD);
    }

    private static void promise2rows0To7CanBe() {
        YieldDoors x = new YieldDoors();
        for (int row = 0; row <= 7; row++) {
            Due.is("row(" + row + ", 0, 1)", x.row(row, 0, 1), 1);
            Due.is("count(0)", x.count(0), row + 1);
        }
    }

    private static void promise2aLaneBelow0IsBad() {
        Due.is("row(0, -1, 1)", new YieldDoors().row(0, -1, 1), Due.BAD);
    }

    private static void promise2aLaneAbove2IsBad() {
        YieldDoors x = new YieldDoors();
        Due.is("row(0, 3, 1)", x.row(0, 3, 1), Due.BAD);
        Due.is("row(0, most, 1)", x.row(0, Due.MOST, 1), Due.BAD);
    }

    private static void promise2lanes0To2CanBe() {
        for (int lane = 0; lane <= 2; lane++) {
            Due.is("row(0, " + lane + ", 1)", new YieldDoors().row(0, lane, 1), 1);
        }
    }

    private static void promise2aRowCanBeEmpty() {
        YieldDoors x = new YieldDoors();
        Due.is("row(0, 0, 0)", x.row(0, 0, 0), 0);
        Due.is("it is there", x.count(0), 1);
        Due.is("it has no ITEM", x.set(0, 0, 0), Due.PLACE);
    }

    private static void promise2fortyItemsCanBe() {
        YieldDoors x = new YieldDoors();
        Due.is("row(7, 2, 40)", x.row(7, 2, 40), 40);
        Due.is("the last", x.set(7, 39, 1), 1);
        Due.is("beyond", x.set(7, 40, 1), Due.PLACE);
    }

    private static void promise2above40ItemsIsBad() {
        YieldDoors x = new YieldDoors();
        Due.is("row(0, 0, 41)", x.row(0, 0, 41), Due.BAD);
        Due.is("row(0, 0, most)", x.row(0, 0, Due.MOST), Due.BAD);
        Due.is("none is there", x.count(0), 0);
    }

    private static void promise2fewerThanNoneIsSize() {
        YieldDoors x = new YieldDoors();
        Due.is("row(0, 0, -1)", x.row(0, 0, -1), Due.SIZE);
        Due.is("row(0, 0, least)", x.row(0, 0, Due.LEAST), Due.SIZE);
        Due.is("none is there", x.count(0), 0);
    }

    private static void promise2badIsAheadOfSize() {
        YieldDoors x = new YieldDoors();
        Due.is("row(8, 0, -1)", x.row(8, 0, -1), Due.BAD);
        Due.is("row(0, 3, -1)", x.row(0, 3, -1), Due.BAD);
        Due.is("status()", x.status(), 0);
    }

    private static void promise2itemsAre0AtFirst() {
        YieldDoors x = Due.told(Due.JUNIORS);
        x.row(3, 2, 40);
        Due.is("the first", Due.item(x, 3, 0), 0);
        Due.is("the last", Due.item(x, 3, 39), 0);
    }

    private static void promise2aRowInPlaceOfOneIsAllNew() {
        YieldDoors x = Due.told(Due.JUNIORS);
        x.row(0, 2, 5);
        x.set(0, 1, 4);
        Due.is("row(0, 0, 3)", x.row(0, 0, 3), 3);
        Due.is("its ITEM is 0", Due.item(x, 0, 1), 0);
        Due.is("it has as many as told", x.set(0, 3, 1), Due.PLACE);
        Due.is("it has the LANE that is told", x.set(0, 0, 256), 0);
        Due.is("count(0)", x.count(0), 1);
    }

    private static void promise2aRowInPlaceOfOneOfTheSameSizeIsAllNew() {
        YieldDoors x = Due.told(Due.JUNIORS);
        x.row(0, 1, 2);
        x.set(0, 1, 4);
        x.row(0, 1, 2);
        Due.is("its ITEM is 0", Due.item(x, 0, 1), 0);
    }

    private static void promise2badChangesNothing() {
        YieldDoors x = Due.busy();
        x.row(8, 0, 1);
        x.row(0, 3, 1);
        x.row(0, 0, 41);
        Due.alike(x, Due.busy());
    }

    private static void promise2sizeChangesNothingButStatus() {
        YieldDoors x = Due.busy();
        x.row(0, 2, -1);
        Due.is("status()", x.status(), 4);
        Due.alikeButStatus(x, Due.busy());
    }

    // ---- promise 3

    private static void promise3aRowBelow0IsBad() {
        YieldDoors x = new YieldDoors();
        Due.is("set(-1, 0, 0)", x.set(-1, 0, 0), Due.BAD);
        Due.is("set(least, 0, 0)", x.set(Due.LEAST, 0, 0), Due.BAD);
    }

    private static void promise3aRowAbove7IsBad() {
        YieldDoors x = new YieldDoors();
        Due.is("set(8, 0, 0)", x.set(8, 0, 0), Due.BAD);
        Due.is("set(most, 0, 0)", x.set(Due.MOST, 0, 0), Due.BAD);
    }

    private static void promise3aMissingRowIsNull() {
        YieldDoors x = new YieldDoors();
        Due.is("set(0, 0, 0)", x.set(0, 0, 0), Due.NULL);
        Due.is("set(7, 0, 0)", x.set(7, 0, 0), Due.NULL);
    }

    private static void promise3nullIsAheadOfPlace() {
        YieldDoors x = new YieldDoors();
        Due.is("set(0, -1, 0)", x.set(0, -1, 0), Due.NULL);
        Due.is("set(0, 40, 0)", x.set(0, 40, 0), Due.NULL);
    }

    private static void promise3anItemBelow0IsPlace() {
        YieldDoors x = new YieldDoors();
        x.row(0, 0, 3);
        Due.is("set(0, -1, 0)", x.set(0, -1, 0), Due.PLACE);
        Due.is("set(0, least, 0)", x.set(0, Due.LEAST, 0), Due.PLACE);
    }

    private static void promise3anItemBeyondTheEndIsPlace() {
        YieldDoors x = new YieldDoors();
        x.row(0, 0, 3);
        Due.is("set(0, 2, 1)", x.set(0, 2, 1), 1);
        Due.is("set(0, 3, 1)", x.set(0, 3, 1), Due.PLACE);
        Due.is("set(0, most, 1)", x.set(0, Due.MOST, 1), Due.PLACE);
    }

    private static void promise3aByteKeepsTheLowest8Bits() {
        YieldDoors x = new YieldDoors();
        x.row(0, 0, 1);
        Due.is("127", x.set(0, 0, 127), 127);
        Due.is("128", x.set(0, 0, 128), -128);
        Due.is("255", x.set(0, 0, 255), -1);
        Due.is("256", x.set(0, 0, 256), 0);
        Due.is("-128", x.set(0, 0, -128), -128);
        Due.is("-129", x.set(0, 0, -129), 127);
        Due.is("most", x.set(0, 0, Due.MOST), -1);
        Due.is("least", x.set(0, 0, Due.LEAST), 0);
    }

    private static void promise3aShortKeepsTheLowest16Bits() {
        YieldDoors x = new YieldDoors();
        x.row(0, 1, 1);
        Due.is("32767", x.set(0, 0, 32767), 32767);
        Due.is("32768", x.set(0, 0, 32768), -32768);
        Due.is("65535", x.set(0, 0, 65535), -1);
        Due.is("65536", x.set(0, 0, 65536), 0);
        Due.is("-32768", x.set(0, 0, -32768), -32768);
        Due.is("-32769", x.set(0, 0, -32769), 32767);
    }

    private static void promise3anIntKeepsAllBits() {
        YieldDoors x = new YieldDoors();
        x.row(0, 2, 1);
        Due.is("most", x.set(0, 0, Due.MOST), Due.MOST);
        Due.is("least", x.set(0, 0, Due.LEAST), Due.LEAST);
    }

    private static void promise3onlyThatItemBecomesIt() {
        YieldDoors x = Due.told(Due.JUNIORS);
        x.row(0, 0, 3);
        x.row(1, 0, 3);
        Due.is("set(0, 1, 5)", x.set(0, 1, 5), 5);
        Due.is("it", Due.item(x, 0, 1), 5);
        Due.is("the one before", Due.item(x, 0, 0), 0);
        Due.is("the one behind", Due.item(x, 0, 2), 0);
        Due.is("of another ROW", Due.item(x, 1, 1), 0);
    }

    private static void promise3whatIsKeptIsTheLowestBits() {
        YieldDoors x = Due.told(Due.JUNIORS);
        x.row(0, 0, 1);
        x.set(0, 0, 256 + 6);
        Due.is("in bytes", Due.item(x, 0, 0), 6);
    }

    private static void promise3placeChangesNothingButStatus() {
        YieldDoors x = Due.busy();
        x.set(0, 3, 1);
        Due.is("status()", x.status(), 2);
        Due.alikeButStatus(x, Due.busy());
    }

    // ---- promise 4

    private static void promise4aRowThatIsNoneIsBad() {
        YieldDoors x = new YieldDoors();
        x.row(0, 0, 1);
        Due.is("a -1", x.copy(-1, 0, 0, 0, 0), Due.BAD);
        Due.is("a 8", x.copy(8, 0, 0, 0, 0), Due.BAD);
        Due.is("b -1", x.copy(0, 0, -1, 0, 0), Due.BAD);
        Due.is("b 8", x.copy(0, 0, 8, 0, 0), Due.BAD);
    }

    private static void promise4badIsAheadOfNull() {
        YieldDoors x = new YieldDoors();
        Due.is("a missing, b 8", x.copy(0, 0, 8, 0, 0), Due.BAD);
        Due.is("a 8, b missing", x.copy(8, 0, 0, 0, 0), Due.BAD);
    }

    private static void promise4aMissingRowIsNull() {
        YieldDoors x = new YieldDoors();
        x.row(0, 0, 1);
        Due.is("a missing", x.copy(1, 0, 0, 0, 0), Due.NULL);
        Due.is("b missing", x.copy(0, 0, 1, 0, 0), Due.NULL);
        Due.is("both missing", x.copy(1, 0, 1, 0, 0), Due.NULL);
    }

    private static void promise4nullIsAheadOfPlace() {
        YieldDoors x = new YieldDoors();
        x.row(0, 0, 1);
        Due.is("b missing, n below 0", x.copy(0, -1, 1, 0, -1), Due.NULL);
    }

    private static void promise4twoLanesAreStore() {
        YieldDoors x = new YieldDoors();
        x.row(0, 0, 2);
        x.row(1, 1, 2);
        x.row(2, 2, 2);
        Due.is("bytes to shorts", x.copy(0, 0, 1, 0, 1), Due.STORE);
        Due.is("shorts to ints", x.copy(1, 0, 2, 0, 1), Due.STORE);
        Due.is("ints to bytes", x.copy(2, 0, 0, 0, 1), Due.STORE);
        Due.is("none of them", x.copy(2, 0, 0, 0, 0), Due.STORE);
    }

    private static void promise4storeIsAheadOfPlace() {
        YieldDoors x = new YieldDoors();
        x.row(0, 0, 2);
        x.row(1, 1, 2);
        Due.is("i below 0", x.copy(0, -1, 1, 0, 1), Due.STORE);
        Due.is("n beyond", x.copy(0, 0, 1, 0, 3), Due.STORE);
    }

    private static void promise4iBelow0IsPlace() {
        YieldDoors x = new YieldDoors();
        x.row(0, 0, 2);
        Due.is("i -1", x.copy(0, -1, 0, 0, 1), Due.PLACE);
        Due.is("i -1, of none", x.copy(0, -1, 0, 0, 0), Due.PLACE);
        Due.is("i least", x.copy(0, Due.LEAST, 0, 0, 0), Due.PLACE);
    }

    private static void promise4jBelow0IsPlace() {
        YieldDoors x = new YieldDoors();
        x.row(0, 0, 2);
        Due.is("j -1", x.copy(0, 0, 0, -1, 1), Due.PLACE);
        Due.is("j -1, of none", x.copy(0, 0, 0, -1, 0), Due.PLACE);
        Due.is("j least", x.copy(0, 0, 0, Due.LEAST, 0), Due.PLACE);
    }

    private static void promise4nBelow0IsPlace() {
        YieldDoors x = new YieldDoors();
        x.row(0, 0, 2);
        Due.is("n -1", x.copy(0, 0, 0, 0, -1), Due.PLACE);
        Due.is("n -1, from behind", x.copy(0, 1, 0, 1, -1), Due.PLACE);
        Due.is("n least", x.copy(0, 0, 0, 0, Due.LEAST), Due.PLACE);
    }

    private static void promise4beyondTheEndOfTheFirstIsPlace() {
        YieldDoors x = new YieldDoors();
        x.row(0, 0, 3);
        x.row(1, 0, 40);
        Due.is("to the end", x.copy(0, 1, 1, 0, 2), 2);
        Due.is("one beyond", x.copy(0, 1, 1, 0, 3), Due.PLACE);
        Due.is("i and n are beyond an int", x.copy(0, 1, 1, 0, Due.MOST), Due.PLACE);
        Due.is("i is most", x.copy(0, Due.MOST, 1, 0, 1), Due.PLACE);
    }

    private static void promise4beyondTheEndOfTheOtherIsPlace() {
        YieldDoors x = new YieldDoors();
        x.row(0, 0, 40);
        x.row(1, 0, 3);
        Due.is("to the end", x.copy(0, 0, 1, 1, 2), 2);
        Due.is("one beyond", x.copy(0, 0, 1, 1, 3), Due.PLACE);
        Due.is("j is most", x.copy(0, 0, 1, Due.MOST, 1), Due.PLACE);
    }

    private static void promise4noneCanBeCopiedAtAnEnd() {
        YieldDoors x = new YieldDoors();
        x.row(0, 0, 3);
        x.row(1, 0, 40);
        Due.is("at both ends", x.copy(0, 3, 1, 40, 0), 0);
        Due.is("beyond the one end", x.copy(0, 4, 1, 40, 0), Due.PLACE);
        Due.is("beyond the other end", x.copy(0, 3, 1, 41, 0), Due.PLACE);
        x.row(2, 0, 0);
        Due.is("of an empty ROW", x.copy(2, 0, 2, 0, 0), 0);
        Due.is("one of an empty ROW", x.copy(2, 0, 2, 0, 1), Due.PLACE);
    }

    private static void promise4fortyCanBeCopied() {
        YieldDoors x = Due.told(Due.JUNIORS);
        x.row(0, 0, 40);
        x.row(1, 0, 40);
        x.set(0, 0, 5);
        x.set(0, 39, 6);
        Due.is("all", x.copy(0, 0, 1, 0, 40), 40);
        Due.is("the first", Due.item(x, 1, 0), 5);
        Due.is("the last", Due.item(x, 1, 39), 6);
    }

    private static void promise4upwardsInOneRowTheyComeAsTheyWere() {
        YieldDoors x = fiveItems();
        Due.is("up by one", x.copy(0, 0, 0, 1, 4), 4);
        items(x, 0, 0, 1, 2, 3);
    }

    private static void promise4downwardsInOneRowTheyComeAsTheyWere() {
        YieldDoors x = fiveItems();
        Due.is("down by one", x.copy(0, 1, 0, 0, 4), 4);
        items(x, 1, 2, 3, 4, 4);
    }

    private static YieldDoors fiveItems() {
        YieldDoors x = Due.told(Due.JUNIORS);
        x.row(0, 1, 5);
        for (int i = 0; i < 5; i++) {
            x.set(0, i, i);
        }
        return x;
    }

    private static void items(YieldDoors x, int... want) {
        for (int i = 0; i < want.length; i++) {
            Due.is("item " + i, Due.item(x, 0, i), want[i]);
        }
    }

    private static void promise4theFirstStaysAsItWas() {
        YieldDoors x = fiveItems();
        x.row(1, 1, 5);
        x.copy(1, 0, 0, 2, 1);
        items(x, 0, 1, 0, 3, 4);
        Due.is("the source", Due.item(x, 1, 0), 0);
    }

    private static void promise4findingsChangeNothingButStatus() {
        YieldDoors x = Due.busy();
        x.copy(0, 0, 0, 1, 3);
        Due.is("PLACE", x.status(), 2);
        x.copy(0, 0, 5, 0, 1);
        Due.is("STORE", x.status(), 5);
        x.copy(0, 0, 1, 0, 1);
        Due.is("NULL", x.status(), 1);
        Due.alikeButStatus(x, Due.busy());
    }

    // ---- promise 5

    private static void promise5aRowThatIsNoneIsBad() {
        YieldDoors x = new YieldDoors();
        Due.is("drop(-1)", x.drop(-1), Due.BAD);
        Due.is("drop(8)", x.drop(8), Due.BAD);
        Due.is("drop(least)", x.drop(Due.LEAST), Due.BAD);
    }

    private static void promise5aMissingRowIsNull() {
        YieldDoors x = new YieldDoors();
        x.row(0, 0, 1);
        x.drop(0);
        Due.is("drop(0) again", x.drop(0), Due.NULL);
        Due.is("drop(7)", x.drop(7), Due.NULL);
    }

    private static void promise5howManyItHad() {
        YieldDoors x = new YieldDoors();
        x.row(0, 0, 0);
        x.row(7, 2, 40);
        Due.is("of none", x.drop(0), 0);
        Due.is("of forty", x.drop(7), 40);
    }

    private static void promise5itIsMissingFromNowOn() {
        YieldDoors x = Due.told(Due.JUNIORS);
        x.row(0, 0, 2);
        x.row(1, 0, 2);
        x.drop(0);
        Due.is("count(0)", x.count(0), 1);
        Due.is("set", x.set(0, 0, 0), Due.NULL);
        Due.is("copy", x.copy(0, 0, 1, 0, 1), Due.NULL);
        Due.is("ranks", x.ranks(0, 0, 0, 0, 1), Due.NULL);
        Due.is("who", x.who(0, 0, 0, 0, 1), Due.NULL);
    }

    private static void promise5aRowBehindItIsAllNew() {
        YieldDoors x = Due.told(Due.JUNIORS);
        x.row(0, 2, 2);
        x.set(0, 0, 6);
        x.drop(0);
        x.row(0, 2, 2);
        Due.is("its ITEM is 0", Due.item(x, 0, 0), 0);
    }

    private static void promise5refusedOrFoundItChangesNothingElse() {
        YieldDoors x = Due.busy();
        x.drop(8);
        x.drop(1);
        Due.is("status()", x.status(), 1);
        Due.alikeButStatus(x, Due.busy());
    }
}
