/** The edges of promises 33 to 38: KINDS, ASKS with THE TRACE, what is counted, and status(). */
public final class AskedEdgeTest {
    private static final String EACH_KIND = "m1,1;c5,3,0;s6,4,0;j7,2,0;g8,1,0;b9,0,0;";

    public static void main(String[] args) throws IllegalAccessException {
        Edges.run(AskedEdgeTest.class);
    }

    // ---- promise 33

    private static void promise33withoutAMinistryItIsBad() {
        Due.is("kind(0)", new YieldDoors().kind(0), Due.BAD);
    }

    private static void promise33aPersonWhoIsNoneIsBad() {
        YieldDoors x = Due.told(EACH_KIND);
        Due.is("kind(-1)", x.kind(-1), Due.BAD);
        Due.is("kind(5)", x.kind(5), Due.BAD);
        Due.is("kind(most)", x.kind(Due.MOST), Due.BAD);
        Due.is("kind(least)", x.kind(Due.LEAST), Due.BAD);
    }

    private static void promise33from1To5AsTold() {
        YieldDoors x = Due.told(EACH_KIND);
        for (int one = 0; one < 5; one++) {
            Due.is("kind(" + one + ")", x.kind(one), one + 1);
        }
    }

    private static void promise33ofWhoIsThroughToo() {
        YieldDoors x = Due.told("m1,1;b0,0,0;");
        x.steps(1);
        Due.is("kind(0)", x.kind(0), 5);
    }

    // ---- promise 34

    private static void promise34withoutAMinistryItIsBad() {
        Due.is("as(0, 0)", new YieldDoors().as(0, 0), Due.BAD);
    }

    private static void promise34aPersonWhoIsNoneIsBad() {
        YieldDoors x = Due.told(EACH_KIND);
        Due.is("as(-1, 0)", x.as(-1, 0), Due.BAD);
        Due.is("as(5, 0)", x.as(5, 0), Due.BAD);
    }

    private static void promise34aKindThatIsNoneIsBad() {
        YieldDoors x = Due.told(EACH_KIND);
        Due.is("as(0, -1)", x.as(0, -1), Due.BAD);
        Due.is("as(0, 6)", x.as(0, 6), Due.BAD);
        Due.is("as(0, 33)", x.as(0, 33), Due.BAD);
        Due.is("as(0, least)", x.as(0, Due.LEAST), Due.BAD);
    }

    private static void takenAs(int one, String kinds) {
        YieldDoors x = Due.told(EACH_KIND);
        for (int kind = 0; kind <= 5; kind++) {
            boolean isOne = kinds.indexOf('0' + kind) >= 0;
            Due.is("as(" + one + ", " + kind + ")", x.as(one, kind), isOne ? one : Due.KIND);
            Due.is("status()", x.status(), isOne ? 0 : 3);
        }
    }

    private static void promise34aClerkIsAPerson() {
        takenAs(0, "01");
    }

    private static void promise34aSecretaryIsAClerk() {
        takenAs(1, "012");
    }

    private static void promise34aJuniorIsAClerk() {
        takenAs(2, "013");
    }

    private static void promise34aGuestIsAPerson() {
        takenAs(3, "04");
    }

    private static void promise34oneWhoBowsIsAGuest() {
        takenAs(4, "045");
    }

    private static void promise34hisKindStays() {
        YieldDoors x = Due.told(EACH_KIND);
        x.as(1, 1);
        Due.is("kind(1)", x.kind(1), 2);
        Due.is("as(1, 2)", x.as(1, 2), 1);
    }

    private static void promise34refusedOrFoundItChangesNothingButStatus() {
        YieldDoors x = Due.busy();
        x.as(0, 0);
        x.as(6, 0);
        x.as(0, 6);
        Due.is("refused", x.status(), 0);
        x.as(0, 5);
        Due.is("found", x.status(), 3);
        Due.alikeButStatus(x, Due.busy());
    }

    // ---- promise 35

    private static void promise35withoutAMinistryItIsBad() {
        YieldDoors x = new YieldDoors();
        Due.is("ask(0, 0)", x.ask(0, 0), Due.BAD);
        Due.is("ask(0, 1)", x.ask(0, 1), Due.BAD);
    }

    private static void promise35aPersonWhoIsNoneIsBad() {
        YieldDoors x = Due.told(EACH_KIND);
        Due.is("ask(-1, 0)", x.ask(-1, 0), Due.BAD);
        Due.is("ask(5, 1)", x.ask(5, 1), Due.BAD);
        Due.is("ask(most, 1)", x.ask(Due.MOST, 1), Due.BAD);
    }

    private static void promise35whatIsNoAskIsBad() {
        YieldDoors x = Due.told(EACH_KIND);
        Due.is("ask(0, -1)", x.ask(0, -1), Due.BAD);
        Due.is("ask(0, 2)", x.ask(0, 2), Due.BAD);
    }

    private static void asked(int one, int what, int answer, int... bodies) {
        YieldDoors x = Due.told(EACH_KIND);
        String call = "ask(" + one + ", " + what + ")";
        x.ask(4, 1);
        Due.is(call, x.ask(one, what), answer);
        for (int i = 0; i < bodies.length; i++) {
            Due.is(call + ": trace(" + i + ")", x.trace(i), bodies[i]);
        }
        Due.is(call + ": trace behind", x.trace(bodies.length), Due.NONE);
    }

    private static void promise35sizeOfAClerk() {
        asked(0, 0, 5 + 3, 11, 10, 21, 20);
    }

    private static void promise35sizeOfASecretary() {
        asked(1, 0, -(6 + 2 * (1 + 4)), 12, 11, 10, 24, 21, 20);
    }

    private static void promise35sizeOfAJunior() {
        asked(2, 0, 7 + (2 + 2 - 1000), 11, 10, 22, 21, 20);
    }

    private static void promise35sizeOfAGuest() {
        asked(3, 0, 8 - 100, 13, 10);
    }

    private static void promise35sizeOfOneWhoBows() {
        asked(4, 0, 2 * (9 - 100), 14, 13, 10);
    }

    private static void promise35markOfAClerk() {
        asked(0, 1, 3, 21, 20);
    }

    private static void promise35markOfASecretary() {
        asked(1, 1, 2 * (1 + 4), 24, 21, 20);
    }

    private static void promise35markOfAJunior() {
        asked(2, 1, 2 + 2 - 1000, 22, 21, 20);
    }

    private static void promise35markOfAGuest() {
        asked(3, 1, 3 - (8 - 100), 23, 20, 13, 10);
    }

    private static void promise35markOfOneWhoBows() {
        asked(4, 1, 4 - 2 * (9 - 100), 23, 20, 14, 13, 10);
    }

    private static void promise35theNumberCountsFrom0() {
        YieldDoors x = Due.told("m1,1;c0,0,0;c0,0,0;c0,0,0;c0,0,0;c0,0,0;c0,0,0;c9,9,0;");
        Due.is("MARK of the first", x.ask(0, 1), 0);
        Due.is("MARK of the last", x.ask(6, 1), 15);
        Due.is("SIZE of the last", x.ask(6, 0), 24);
    }

    private static void promise35byRankAndHonourAsTheyAreNow() {
        YieldDoors x = Due.told("m1,1;c5,3,0;");
        x.revise(0, 0, 9);
        x.revise(0, 1, 8);
        Due.is("SIZE", x.ask(0, 0), 17);
    }

    private static void promise35ofWhoIsThroughToo() {
        YieldDoors x = Due.told("m1,1;c5,3,0;");
        x.steps(1);
        Due.is("SIZE", x.ask(0, 0), 8);
    }

    private static void promise35theTraceIsEmptyAheadOfIt() {
        YieldDoors x = Due.told(EACH_KIND);
        x.ask(1, 0);
        x.ask(0, 1);
        Due.is("trace(0)", x.trace(0), 21);
        Due.is("trace(1)", x.trace(1), 20);
        Due.is("trace(2)", x.trace(2), Due.NONE);
    }

    private static void promise35refusedItChangesNothing() {
        YieldDoors x = Due.busy();
        x.ask(6, 0);
        x.ask(0, 2);
        Due.alike(x, Due.busy());
    }

    private static void promise35nothingButTheTraceChanges() {
        YieldDoors x = Due.busy();
        x.ask(0, 1);
        x.ask(2, 1);
        x.ask(1, 0);
        Due.alike(x, Due.busy());
    }

    // ---- promise 36

    private static void promise36beforeAnAskThereIsNone() {
        YieldDoors x = Due.told(EACH_KIND);
        Due.is("trace(0)", x.trace(0), Due.NONE);
    }

    private static void promise36below0ThereIsNone() {
        YieldDoors x = Due.told(EACH_KIND);
        x.ask(0, 0);
        Due.is("trace(-1)", x.trace(-1), Due.NONE);
        Due.is("trace(least)", x.trace(Due.LEAST), Due.NONE);
    }

    private static void promise36behindTheLastThereIsNone() {
        YieldDoors x = Due.told(EACH_KIND);
        x.ask(1, 0);
        Due.is("the last", x.trace(5), 20);
        Due.is("behind it", x.trace(6), Due.NONE);
        Due.is("trace(15)", x.trace(15), Due.NONE);
        Due.is("trace(16)", x.trace(16), Due.NONE);
        Due.is("trace(most)", x.trace(Due.MOST), Due.NONE);
    }

    private static void promise36readingItKeepsIt() {
        YieldDoors x = Due.told(EACH_KIND);
        x.ask(3, 0);
        x.trace(0);
        x.trace(9);
        Due.is("trace(0)", x.trace(0), 13);
        Due.is("trace(1)", x.trace(1), 10);
    }

    private static void promise36itOutlivesOtherCalls() {
        YieldDoors x = Due.told(EACH_KIND);
        x.ask(3, 0);
        x.as(0, 0);
        x.steps(1);
        Due.tell(x, "m1,1;g0,0,0;");
        Due.is("trace(1)", x.trace(1), 10);
    }

    // ---- promise 37

    private static void promise37whatIsNotCountedIsBad() {
        YieldDoors x = new YieldDoors();
        Due.is("count(-1)", x.count(-1), Due.BAD);
        Due.is("count(8)", x.count(8), Due.BAD);
        Due.is("count(most)", x.count(Due.MOST), Due.BAD);
        Due.is("count(least)", x.count(Due.LEAST), Due.BAD);
    }

    private static void promise37rowsFromNoneToEight() {
        YieldDoors x = new YieldDoors();
        for (int row = 0; row < 8; row++) {
            Due.is("ROWS", x.count(0), row);
            x.row(row, row % 3, row * 5);
        }
        Due.is("all", x.count(0), 8);
    }

    private static void promise37doorsAndPeopleFromNoneToTheMost() {
        YieldDoors x = new YieldDoors();
        Due.is("DOORS, none", x.count(1), 0);
        Due.is("PEOPLE, none", x.count(2), 0);
        Due.tell(x, Due.GUESTS.replace("m1", "m4"));
        Due.is("DOORS", x.count(1), 4);
        Due.is("PEOPLE", x.count(2), 7);
    }

    private static void promise37throughFromNoneToAll() {
        YieldDoors x = Due.told(Due.GUESTS);
        Due.is("none", x.count(4), 0);
        x.steps(7);
        Due.is("all", x.count(4), 127);
    }

    private static void promise37nobodyFromNoneToAll() {
        YieldDoors x = Due.told(Due.GUESTS);
        Due.is("none", x.count(5), 0);
        x.bow(6);
        Due.is("the last", x.count(5), 64);
        for (int one = 0; one < 6; one++) {
            x.bow(one);
        }
        Due.is("all", x.count(5), 127);
    }

    private static void promise37actsFromNoneTo24() {
        YieldDoors x = Due.told(Due.GUESTS);
        Due.is("none", x.count(6), 0);
        x.steps(23);
        Due.is("23", x.count(6), 23);
        x.steps(1);
        Due.is("24", x.count(6), 24);
        x.steps(1);
        Due.is("of more", x.count(6), 24);
    }

    private static void promise37bytesFromNoneTo100() {
        YieldDoors x = new YieldDoors();
        Due.is("none", x.count(7), 0);
        for (int i = 0; i < 120; i++) {
            x.feed('m');
        }
        Due.is("full", x.count(7), 100);
    }

    private static void promise37stepsFrom0To999() {
        YieldDoors x = Due.told(Due.GUESTS);
        Due.is("0", x.count(3), 0);
        for (int i = 0; i < 60; i++) {
            x.steps(24);
            x.steps(9);
        }
        x.steps(1);
        x.steps(1);
        x.steps(1);
        x.steps(1);
        x.steps(1);
        x.steps(1);
        Due.is("999", x.count(3), 999);
    }

    private static void promise37countingChangesNothing() {
        YieldDoors x = Due.busy();
        for (int what = -1; what <= 8; what++) {
            x.count(what);
        }
        Due.alike(x, Due.busy());
    }

    // ---- promise 38

    /** A FINDING of 4 is left by it. */
    private static YieldDoors found() {
        YieldDoors x = Due.busy();
        x.row(1, 0, -1);
        Due.is("status()", x.status(), 4);
        return x;
    }

    private static void promise38thereWasNoCallYet() {
        YieldDoors x = Due.told(EACH_KIND);
        x.row(8, 0, 0);
        x.as(0, 6);
        Due.is("status()", x.status(), 0);
    }

    private static void promise38refusedRowsCallsLeaveIt() {
        YieldDoors x = found();
        x.row(8, 0, 1);
        x.row(0, 0, 41);
        x.set(8, 0, 1);
        x.copy(0, 0, 8, 0, 0);
        x.drop(-1);
        x.ranks(0, 0, 0, 0, 13);
        x.who(9, 0, 0, 0, 1);
        x.as(0, 6);
        Due.is("status()", x.status(), 4);
    }

    private static void promise38callsWithoutARowLeaveIt() {
        YieldDoors x = found();
        x.feed('m');
        x.ministry();
        x.undo();
        x.steps(1);
        x.come(0, 1);
        x.bow(0);
        x.revise(0, 0, 1);
        x.person(0, 0);
        x.goes(0);
        x.raise(0);
        x.image(0);
        x.restore(0);
        x.kind(0);
        x.ask(0, 0);
        x.trace(0);
        x.count(0);
        Due.is("status()", x.status(), 4);
    }

    private static void promise38readingItKeepsIt() {
        YieldDoors x = found();
        x.status();
        Due.is("status()", x.status(), 4);
    }

    private static void promise38eachCallWithARowWithoutAFindingEndsIt() {
        YieldDoors x = found();
        x.row(1, 0, 1);
        Due.is("row", x.status(), 0);
        x = found();
        x.set(0, 0, 1);
        Due.is("set", x.status(), 0);
        x = found();
        x.copy(0, 0, 0, 0, 0);
        Due.is("copy", x.status(), 0);
        x = found();
        x.drop(0);
        Due.is("drop", x.status(), 0);
        x = found();
        x.ranks(0, 0, 0, 0, 1);
        Due.is("ranks", x.status(), 0);
        x = found();
        x.who(0, 0, 0, 0, 1);
        Due.is("who", x.status(), 0);
        x = found();
        x.as(0, 0);
        Due.is("as", x.status(), 0);
    }

    private static void promise38theNumberOfEachFinding() {
        YieldDoors x = found();
        x.set(7, 0, 0);
        Due.is("NULL by set", x.status(), 1);
        x.set(0, 3, 0);
        Due.is("PLACE by set", x.status(), 2);
        x.as(0, 5);
        Due.is("KIND", x.status(), 3);
        x.row(0, 0, -1);
        Due.is("SIZE", x.status(), 4);
        x.copy(0, 0, 5, 0, 0);
        Due.is("STORE", x.status(), 5);
        x.drop(7);
        Due.is("NULL by drop", x.status(), 1);
        x.copy(0, 0, 0, 0, 4);
        Due.is("PLACE by copy", x.status(), 2);
        x.ranks(0, 0, 7, 0, 1);
        Due.is("NULL by ranks", x.status(), 1);
        x.ranks(0, 0, 0, 3, 1);
        Due.is("PLACE by ranks", x.status(), 2);
        x.who(0, 0, 7, 0, 1);
        Due.is("NULL by who", x.status(), 1);
        x.who(0, 0, 0, 3, 1);
        Due.is("PLACE by who", x.status(), 2);
        x.copy(7, 0, 0, 0, 0);
        Due.is("NULL by copy", x.status(), 1);
    }
}
