/** The edges of promises 6 to 9: THE TAPE, the text of a MINISTRY with its FAULTS, and what is undone. */
public final class ToldEdgeTest {
    private static final int CANNOT_STAND = 1, NOT_AS_TOLD = 2, NO_ROOM = 3;

    public static void main(String[] args) throws IllegalAccessException {
        Edges.run(ToldEdgeTest.class);
    }

    // ---- promise 6

    private static void promise6below0IsBad() {
        YieldDoors x = new YieldDoors();
        Due.is("feed(-1)", x.feed(-1), Due.BAD);
        Due.is("feed(least)", x.feed(Due.LEAST), Due.BAD);
        Due.is("count(7)", x.count(7), 0);
    }

    private static void promise6above255IsBad() {
        YieldDoors x = new YieldDoors();
        Due.is("feed(256)", x.feed(256), Due.BAD);
        Due.is("feed(256 + 'm')", x.feed(256 + 'm'), Due.BAD);
        Due.is("feed(most)", x.feed(Due.MOST), Due.BAD);
        Due.is("count(7)", x.count(7), 0);
    }

    private static void promise6eachByteCanBeFed() {
        YieldDoors x = new YieldDoors();
        Due.is("feed(0)", x.feed(0), 1);
        Due.is("feed(255)", x.feed(255), 2);
        Due.is("feed(128)", x.feed(128), 3);
    }

    private static YieldDoors full() {
        YieldDoors x = new YieldDoors();
        for (int i = 0; i < 100; i++) {
            x.feed('m');
        }
        return x;
    }

    private static void promise6theHundredthHasRoom() {
        YieldDoors x = new YieldDoors();
        for (int i = 1; i <= 100; i++) {
            Due.is("feed, " + i, x.feed('m'), i);
        }
    }

    private static void promise6theNextIsFull() {
        YieldDoors x = full();
        Due.is("feed, 101", x.feed('m'), Due.FULL);
        Due.is("feed, once more", x.feed('m'), Due.FULL);
        Due.is("count(7)", x.count(7), 100);
    }

    private static void promise6badIsAheadOfFull() {
        YieldDoors x = full();
        Due.is("feed(256)", x.feed(256), Due.BAD);
        Due.is("feed(-1)", x.feed(-1), Due.BAD);
    }

    private static void promise6behindMinistryThereIsRoomAgain() {
        YieldDoors x = full();
        x.ministry();
        Due.is("feed", x.feed('m'), 1);
    }

    private static void promise6refusedItChangesNothing() {
        YieldDoors x = Due.busy();
        x.feed(-1);
        x.feed(256);
        Due.alike(x, Due.busy());
    }

    // ---- promise 7: what can stand

    private static void read(String text, int people) {
        YieldDoors x = new YieldDoors();
        Due.is("ministry() of " + text, Due.tell(x, text), people);
        Due.is("fault() of " + text, x.fault(), 0);
    }

    private static void fault(String text, int place, int number) {
        YieldDoors x = new YieldDoors();
        Due.is("ministry() of " + text, Due.tell(x, text), -1000100 - place);
        Due.is("fault() of " + text, x.fault(), number);
        Due.is("count(7) behind " + text, x.count(7), 0);
        Due.is("stuck() behind " + text, x.stuck(), Due.STATE);
    }

    private static void promise7onePersonCanBe() {
        read("m1,1;c0,0,0;", 1);
    }

    private static void promise7sevenPeopleCanBe() {
        read(Due.GUESTS, 7);
    }

    private static void promise7numbersCanHaveTwoFigures() {
        YieldDoors x = new YieldDoors();
        Due.is("ministry()", Due.tell(x, "m04,09;c09,08,03;"), 1);
        Due.is("DOORS", x.count(1), 4);
        Due.is("RANK", x.person(0, 0), 9);
        Due.is("HONOUR", x.person(0, 1), 8);
        Due.is("DOOR", x.person(0, 2), 3);
        x.bow(0);
        Due.is("YARD", x.person(0, 3), 9);
    }

    private static void promise7eachSortIsItsKind() {
        YieldDoors x = Due.told("m1,1;c0,0,0;s0,0,0;j0,0,0;g0,0,0;b0,0,0;");
        for (int one = 0; one < 5; one++) {
            Due.is("kind(" + one + ")", x.kind(one), one + 1);
        }
    }

    private static void promise7oneDoorAndFourCanBe() {
        Due.is("one", Due.told("m1,1;g0,0,0;").count(1), 1);
        Due.is("four", Due.told("m4,1;g0,0,3;").count(1), 4);
    }

    private static void promise7noDoorIsNotAsTold() {
        fault("m0,1;g0,0,0;", 1, NOT_AS_TOLD);
        fault("m00,1;g0,0,0;", 1, NOT_AS_TOLD);
    }

    private static void promise7fiveDoorsAreNotAsTold() {
        fault("m5,1;g0,0,0;", 1, NOT_AS_TOLD);
        fault("m99,1;g0,0,0;", 1, NOT_AS_TOLD);
    }

    private static void promise7aYardOf1AndOf9CanBe() {
        read("m1,1;g0,0,0;", 1);
        read("m1,9;g0,0,0;", 1);
    }

    private static void promise7aYardOf0IsNotAsTold() {
        fault("m1,0;g0,0,0;", 3, NOT_AS_TOLD);
    }

    private static void promise7aYardOf10IsNotAsTold() {
        fault("m1,10;g0,0,0;", 3, NOT_AS_TOLD);
    }

    private static void promise7aRankOf0AndOf9CanBe() {
        Due.is("0", Due.told("m1,1;g0,1,0;").person(0, 0), 0);
        Due.is("9", Due.told("m1,1;g9,1,0;").person(0, 0), 9);
    }

    private static void promise7aRankOf10IsNotAsTold() {
        fault("m1,1;g10,0,0;", 6, NOT_AS_TOLD);
        fault("m1,1;g99,0,0;", 6, NOT_AS_TOLD);
    }

    private static void promise7anHonourOf0AndOf9CanBe() {
        Due.is("0", Due.told("m1,1;g1,0,0;").person(0, 1), 0);
        Due.is("9", Due.told("m1,1;g1,9,0;").person(0, 1), 9);
    }

    private static void promise7anHonourOf10IsNotAsTold() {
        fault("m1,1;g0,10,0;", 8, NOT_AS_TOLD);
    }

    private static void promise7theLastDoorCanBe() {
        Due.is("of one", Due.told("m1,1;g0,0,0;").person(0, 2), 0);
        Due.is("of three", Due.told("m3,1;g0,0,2;").person(0, 2), 2);
    }

    private static void promise7aDoorThatIsNoneIsNotAsTold() {
        fault("m1,1;g0,0,1;", 10, NOT_AS_TOLD);
        fault("m3,1;g0,0,3;", 10, NOT_AS_TOLD);
        fault("m4,1;g0,0,4;", 10, NOT_AS_TOLD);
        fault("m4,1;g0,0,99;", 10, NOT_AS_TOLD);
    }

    private static void promise7aDoorIsOneOfThisTextNotOfTheMinistryBefore() {
        YieldDoors x = Due.told("m4,1;g0,0,3;");
        Due.is("ministry()", Due.tell(x, "m2,1;g0,0,3;"), -1000110);
        Due.is("fault()", x.fault(), NOT_AS_TOLD);
    }

    private static void promise7anEighthPersonHasNoRoom() {
        for (char sort : new char[] {'c', 's', 'j', 'g', 'b'}) {
            fault(Due.GUESTS + sort + "0,0,0;", 54, NO_ROOM);
        }
        fault(Due.GUESTS + "c", 54, NO_ROOM);
    }

    private static void promise7ofOneTokenTheLeastFaultIsTold() {
        fault(Due.GUESTS + "m", 54, CANNOT_STAND);
        fault(Due.GUESTS + ";", 54, CANNOT_STAND);
        fault(Due.GUESTS + "99", 54, CANNOT_STAND);
        fault("m999,1;g0,0,0;", 1, CANNOT_STAND);
    }

    private static void promise7theFirstTokenThatHasAFaultIsTold() {
        fault("m5,0;x", 1, NOT_AS_TOLD);
        fault("m1,0;;", 3, NOT_AS_TOLD);
        fault("m1;99", 2, CANNOT_STAND);
        fault("m1,1;g10,x", 6, NOT_AS_TOLD);
        fault("m1,1;g0,0,9;g999", 10, NOT_AS_TOLD);
    }

    // ---- promise 7: what cannot

    private static void promise7anEmptyTapeEndsAt0() {
        fault("", 0, CANNOT_STAND);
    }

    private static void promise7theEndCannotStandBeforeThePeople() {
        fault("m", 1, CANNOT_STAND);
        fault("m1", 2, CANNOT_STAND);
        fault("m1,", 3, CANNOT_STAND);
        fault("m1,1", 4, CANNOT_STAND);
        fault("m1,1;", 5, CANNOT_STAND);
    }

    private static void promise7theEndCannotStandWithinAPerson() {
        fault("m1,1;g", 6, CANNOT_STAND);
        fault("m1,1;g0", 7, CANNOT_STAND);
        fault("m1,1;g0,", 8, CANNOT_STAND);
        fault("m1,1;g0,0", 9, CANNOT_STAND);
        fault("m1,1;g0,0,", 10, CANNOT_STAND);
        fault("m1,1;g0,0,0", 11, CANNOT_STAND);
        fault("m1,1;g0,0,0;g", 13, CANNOT_STAND);
    }

    private static void promise7threeFiguresAreNoTokenAtTheirFirst() {
        fault("m001,1;g0,0,0;", 1, CANNOT_STAND);
        fault("m1,001;g0,0,0;", 3, CANNOT_STAND);
        fault("m1,1;g000,0,0;", 6, CANNOT_STAND);
        fault("m1,1;g0,000,0;", 8, CANNOT_STAND);
        fault("m1,1;g0,0,000;", 10, CANNOT_STAND);
        fault("m1,1;g0,0,0;000", 12, CANNOT_STAND);
        fault("000", 0, CANNOT_STAND);
    }

    private static void promise7moreThanThreeFiguresAreNone() {
        fault("m0001,1;g0,0,0;", 1, CANNOT_STAND);
        fault("m4294967297,1;g0,0,0;", 1, CANNOT_STAND);
    }

    private static void promise7aTapeFullOfFiguresIsNone() {
        StringBuilder text = new StringBuilder("m");
        while (text.length() < 100) {
            text.append('1');
        }
        fault(text.toString(), 1, CANNOT_STAND);
    }

    private static void promise7aFullTapeIsReadToItsEnd() {
        StringBuilder text = new StringBuilder("m04,09;");
        for (int i = 0; i < 7; i++) {
            text.append("g09,09,03;");
        }
        read(text.toString(), 7);
        while (text.length() < 100) {
            text.append('g');
        }
        fault(text.toString(), 77, NO_ROOM);
    }

    private static void promise7whatIsNoLetterNoFigureNoSignIsNone() {
        for (char c : new char[] {0, 1, ' ', '\n', '\t', '+', '-', '.', '/', ':', '<', '@', 'G', 'Z', '[', '`', '{', 127, 128, 255}) {
            fault(c + "1,1;g0,0,0;", 0, CANNOT_STAND);
            fault("m" + c + "1,1;g0,0,0;", 1, CANNOT_STAND);
            fault("m1" + c + "1;g0,0,0;", 2, CANNOT_STAND);
            fault("m1,1;" + c + "0,0,0;", 5, CANNOT_STAND);
            fault("m1,1;g0,0,0;" + c, 12, CANNOT_STAND);
        }
    }

    private static void promise7aLetterThatIsNoSortCannotStand() {
        for (char c = 'a'; c <= 'z'; c++) {
            if ("csjgb".indexOf(c) < 0) {
                fault("m1,1;" + c + "0,0,0;", 5, CANNOT_STAND);
            }
        }
    }

    private static void promise7onlyAnMBegins() {
        for (char c = 'a'; c <= 'z'; c++) {
            if (c != 'm') {
                fault(c + "1,1;g0,0,0;", 0, CANNOT_STAND);
            }
        }
        fault(",1,1;g0,0,0;", 0, CANNOT_STAND);
        fault("1,1;g0,0,0;", 0, CANNOT_STAND);
    }

    private static void promise7eachLetterIsATokenByItself() {
        fault("mm1,1;g0,0,0;", 1, CANNOT_STAND);
        fault("m1,1;gg0,0,0;", 6, CANNOT_STAND);
    }

    private static void promise7aNumberThatIsMissingCannotBe() {
        fault("m,1;g0,0,0;", 1, CANNOT_STAND);
        fault("m1,;g0,0,0;", 3, CANNOT_STAND);
        fault("m1,1;g,0,0;", 6, CANNOT_STAND);
        fault("m1,1;g0,,0;", 8, CANNOT_STAND);
        fault("m1,1;g0,0,;", 10, CANNOT_STAND);
    }

    private static void promise7theOtherSignCannotStand() {
        fault("m1;1;g0,0,0;", 2, CANNOT_STAND);
        fault("m1,1,g0,0,0;", 4, CANNOT_STAND);
        fault("m1,1;g0;0,0;", 7, CANNOT_STAND);
        fault("m1,1;g0,0;0;", 9, CANNOT_STAND);
        fault("m1,1;g0,0,0,", 11, CANNOT_STAND);
    }

    private static void promise7behindAPersonOnlyAPersonOrTheEndCanStand() {
        fault("m1,1;g0,0,0;;", 12, CANNOT_STAND);
        fault("m1,1;g0,0,0;,", 12, CANNOT_STAND);
        fault("m1,1;g0,0,0;1", 12, CANNOT_STAND);
        fault("m1,1;g0,0,0;m1,1;", 12, CANNOT_STAND);
    }

    // ---- promise 7: what it does

    private static void promise7theTapeIsEmptyThen() {
        YieldDoors x = new YieldDoors();
        Due.tell(x, "m1,1;g0,0,0;");
        Due.is("read", x.count(7), 0);
        Due.tell(x, "m1,1;g0,0,0");
        Due.is("with a FAULT", x.count(7), 0);
        Due.is("ministry() of nothing more", x.ministry(), -1000100);
    }

    private static void promise7withAFaultAllStays() {
        YieldDoors x = Due.busy();
        YieldDoors y = Due.busy();
        Due.is("the text of the one", Due.tell(x, "m4,9;j1,1,3;g1,1,4;"), -1000102);
        Due.is("no text of the other", y.ministry(), -1000102);
        Due.alike(x, y);
    }

    private static void promise7withAFaultLateInTheTextAllStays() {
        YieldDoors x = Due.busy();
        YieldDoors y = Due.busy();
        x.ministry();
        y.ministry();
        Due.is("the text of the one", Due.tell(x, "m4,9;j1,1,3;g1,1,3"), -1000118);
        Due.is("no text of the other", Due.tell(y, "x"), -1000100);
        Due.alikeButStatus(x, y);
    }

    private static void promise7aMinistryStandsInPlaceOfTheOneBefore() {
        YieldDoors x = Due.told(Due.GUESTS);
        Due.is("fewer PEOPLE", Due.tell(x, "m2,3;c1,2,1;s3,4,0;"), 2);
        Due.is("DOORS", x.count(1), 2);
        Due.is("PEOPLE", x.count(2), 2);
        Due.is("no third", x.person(2, 0), Due.BAD);
        Due.is("RANK", x.person(1, 0), 3);
        Due.is("DOOR 0", x.door(0, 0), 2);
        Due.is("DOOR 1", x.door(1, 0), 1);
    }

    private static void promise7anewTheStepIs0() {
        YieldDoors x = Due.busy();
        x.ministry();
        Due.tell(x, "m1,1;g0,0,0;g0,0,0;");
        Due.is("STEP", x.count(3), 0);
    }

    private static void promise7anewAllWaitAtTheirDoors() {
        YieldDoors x = Due.told("m1,1;g0,0,0;g0,0,0;");
        x.steps(2);
        Due.tell(x, "m2,1;g0,0,1;g0,0,0;");
        Due.is("THROUGH", x.count(4), 0);
        Due.is("where one WAITS", x.person(0, 2), 1);
    }

    private static void promise7anewNobodyIsNobody() {
        YieldDoors x = Due.told("m1,9;g0,0,0;g0,0,0;");
        x.bow(0);
        x.bow(1);
        Due.tell(x, "m1,9;g0,0,0;g0,0,0;");
        Due.is("NOBODY", x.count(5), 0);
    }

    private static void promise7anewNoActCanBeUndone() {
        YieldDoors x = Due.busy();
        x.ministry();
        Due.tell(x, "m1,1;g0,0,0;");
        Due.is("count(6)", x.count(6), 0);
        Due.is("undo()", x.undo(), Due.STATE);
    }

    private static void promise7anewNothingThatWasForetoldIsLeft() {
        YieldDoors x = Due.told("m1,9;g0,0,0;g0,0,0;g0,0,0;");
        x.drawn(1, 1, 0);
        Due.tell(x, "m1,9;g0,0,0;g0,0,0;g0,0,0;");
        Due.is("STEP", x.count(3), 0);
        Due.is("THROUGH", x.count(4), 0);
        Due.is("NOBODY", x.count(5), 0);
    }

    private static void promise7anewTheRowsAndTheImagesStay() {
        YieldDoors x = Due.busy();
        x.ministry();
        Due.tell(x, "m1,1;g0,0,0;");
        Due.is("ROWS", x.count(0), 2);
        Due.is("restore(1)", x.restore(1), 1);
        Due.is("PEOPLE", x.count(2), 6);
    }

    // ---- promise 8

    private static void promise8itIs0BeforeAFault() {
        YieldDoors x = Due.told("m1,1;g0,0,0;");
        Due.is("fault()", x.fault(), 0);
    }

    private static void promise8eachNumber() {
        YieldDoors x = new YieldDoors();
        Due.tell(x, "x");
        Due.is("cannot stand", x.fault(), 1);
        Due.tell(x, "m9");
        Due.is("not as told", x.fault(), 2);
        Due.tell(x, Due.GUESTS + "g");
        Due.is("no room", x.fault(), 3);
    }

    private static void promise8itIsTheLatestBehindATextWithoutOne() {
        YieldDoors x = new YieldDoors();
        Due.tell(x, "m9");
        Due.tell(x, "m1,1;g0,0,0;");
        Due.is("fault()", x.fault(), 2);
    }

    private static void promise8refusalsAreNoFaults() {
        YieldDoors x = new YieldDoors();
        Due.tell(x, "m9");
        x.feed(256);
        x.steps(1);
        x.drop(0);
        Due.is("fault()", x.fault(), 2);
    }

    // ---- promise 9

    private static void promise9noneIsState() {
        YieldDoors x = Due.told("m2,1;g0,0,0;");
        Due.is("none yet", x.undo(), Due.STATE);
        x.come(0, 1);
        x.undo();
        Due.is("none any more", x.undo(), Due.STATE);
        Due.is("where he WAITS", x.person(0, 2), 0);
    }

    private static void promise9howManyCanBeUndoneYet() {
        YieldDoors x = Due.told("m2,1;g0,0,0;");
        x.come(0, 1);
        x.bow(0);
        Due.is("undo()", x.undo(), 1);
        Due.is("undo()", x.undo(), 0);
        Due.is("count(6)", x.count(6), 0);
    }

    private static void promise9theLatestIsTheFirst() {
        YieldDoors x = Due.told("m3,1;g0,0,0;");
        x.come(0, 1);
        x.come(0, 2);
        x.undo();
        Due.is("the second", x.person(0, 2), 1);
        x.undo();
        Due.is("the first", x.person(0, 2), 0);
    }

    private static void promise9aStepIsUndone() {
        YieldDoors x = Due.told("m2,5;c1,0,0;c2,0,0;g0,0,1;j0,0,0;");
        x.bow(3);
        x.steps(1);
        x.undo();
        Due.is("STEP", x.count(3), 0);
        Due.is("THROUGH", x.count(4), 0);
        Due.is("where one WAITS", x.person(2, 2), 1);
        Due.is("NOBODY for", x.person(3, 3), 5);
    }

    private static void promise9whoWentAsNobodyIsNobodyAgain() {
        YieldDoors x = Due.told("m1,5;j0,0,0;j0,0,0;");
        x.bow(0);
        x.steps(1);
        x.undo();
        Due.is("NOBODY for", x.person(0, 3), 5);
    }

    private static void promise9oneWhoCameIsWhereHeWas() {
        YieldDoors x = Due.told("m3,5;g0,0,2;");
        x.come(0, 0);
        x.undo();
        Due.is("from another one", x.person(0, 2), 2);
        x.steps(1);
        x.come(0, 1);
        x.undo();
        Due.is("from THROUGH", x.person(0, 2), Due.NONE);
    }

    private static void promise9aBowIsUndone() {
        YieldDoors x = Due.told("m1,5;g0,0,0;j0,0,0;");
        x.bow(1);
        x.steps(1);
        x.bow(1);
        x.undo();
        Due.is("as he was NOBODY", x.person(1, 3), 4);
        x.undo();
        x.undo();
        Due.is("not NOBODY", x.person(1, 3), 0);
    }

    private static void promise9rankAndHonourAreWhatTheyWere() {
        YieldDoors x = Due.told("m1,5;g3,4,0;");
        x.revise(0, 0, 9);
        x.revise(0, 1, 9);
        x.undo();
        Due.is("HONOUR", x.person(0, 1), 4);
        Due.is("RANK yet", x.person(0, 0), 9);
        x.undo();
        Due.is("RANK", x.person(0, 0), 3);
    }

    private static void promise9stepsAreUndoneOneByOne() {
        YieldDoors x = Due.told(Due.GUESTS);
        x.steps(3);
        Due.is("undo()", x.undo(), 2);
        Due.is("STEP", x.count(3), 2);
        Due.is("THROUGH", x.count(4), 3);
    }

    private static void promise9twentyFourAreKept() {
        YieldDoors x = Due.told("m1,1;g0,0,0;");
        for (int i = 0; i < 24; i++) {
            x.revise(0, 1, (i + 1) % 10);
        }
        Due.is("count(6)", x.count(6), 24);
        for (int i = 23; i >= 0; i--) {
            Due.is("undo()", x.undo(), i);
            Due.is("HONOUR", x.person(0, 1), i % 10);
        }
        Due.is("undo() of none", x.undo(), Due.STATE);
    }

    private static void promise9ofMoreTheOldestIsForgotten() {
        YieldDoors x = Due.told("m1,1;g0,0,0;");
        for (int i = 0; i < 25; i++) {
            x.revise(0, 1, (i + 1) % 10);
        }
        Due.is("count(6)", x.count(6), 24);
        for (int i = 0; i < 24; i++) {
            x.undo();
        }
        Due.is("undo() of none", x.undo(), Due.STATE);
        Due.is("the first stays done", x.person(0, 1), 1);
    }

    private static void promise9ofManyStepsTheLast24AreKept() {
        YieldDoors x = Due.told(Due.GUESTS);
        x.steps(24);
        x.steps(24);
        for (int i = 0; i < 24; i++) {
            x.undo();
        }
        Due.is("STEP", x.count(3), 24);
        Due.is("undo() of none", x.undo(), Due.STATE);
    }

    private static void promise9behindUndoActsAreKeptAnew() {
        YieldDoors x = Due.told("m4,1;g0,0,0;");
        x.come(0, 1);
        x.come(0, 2);
        x.undo();
        x.come(0, 3);
        Due.is("undo()", x.undo(), 1);
        Due.is("where he WAITS", x.person(0, 2), 1);
        Due.is("undo()", x.undo(), 0);
        Due.is("where he WAITED first", x.person(0, 2), 0);
    }

    private static void promise9rowsAndTheTapeAreNotUndone() {
        YieldDoors x = Due.told("m2,1;g0,0,0;");
        x.come(0, 1);
        x.row(0, 0, 1);
        x.feed('m');
        x.image(0);
        x.undo();
        Due.is("ROWS", x.count(0), 1);
        Due.is("bytes", x.count(7), 1);
        Due.is("the IMAGE", x.restore(0), 1);
        Due.is("where he WAITED then", x.person(0, 2), 1);
    }
}
