/** The edges of promises 10 to 15: STEPS, people who come, bow and are revised, and what is there then. */
public final class DoneEdgeTest {
    public static void main(String[] args) throws IllegalAccessException {
        Edges.run(DoneEdgeTest.class);
    }

    // ---- promise 10

    private static void promise10withoutAMinistryItIsStateAheadOfBad() {
        YieldDoors x = new YieldDoors();
        Due.is("steps(1)", x.steps(1), Due.STATE);
        Due.is("steps(0)", x.steps(0), Due.STATE);
        Due.is("steps(25)", x.steps(25), Due.STATE);
    }

    private static void promise10fewerThan1IsBad() {
        YieldDoors x = Due.told(Due.GUESTS);
        Due.is("steps(0)", x.steps(0), Due.BAD);
        Due.is("steps(-1)", x.steps(-1), Due.BAD);
        Due.is("steps(least)", x.steps(Due.LEAST), Due.BAD);
        Due.is("STEP", x.count(3), 0);
    }

    private static void promise10moreThan24IsBad() {
        YieldDoors x = Due.told(Due.GUESTS);
        Due.is("steps(25)", x.steps(25), Due.BAD);
        Due.is("steps(most)", x.steps(Due.MOST), Due.BAD);
        Due.is("STEP", x.count(3), 0);
    }

    private static void promise10one() {
        YieldDoors x = Due.told(Due.GUESTS);
        Due.is("steps(1)", x.steps(1), 1);
        Due.is("STEP", x.count(3), 1);
    }

    private static void promise10twentyFour() {
        YieldDoors x = Due.told(Due.GUESTS);
        Due.is("steps(24)", x.steps(24), 7);
        Due.is("STEP", x.count(3), 24);
    }

    private static void promise10eachIsAnAct() {
        YieldDoors x = Due.told(Due.GUESTS);
        x.steps(3);
        Due.is("count(6)", x.count(6), 3);
    }

    private static YieldDoors atStep(int step) {
        YieldDoors x = Due.told("m1,1;g0,0,0;");
        for (int left = step; left > 0; left -= 24) {
            x.steps(Math.min(24, left));
        }
        Due.is("STEP", x.count(3), step);
        return x;
    }

    private static void promise10step999CanBe() {
        YieldDoors x = atStep(975);
        Due.is("steps(24)", x.steps(24), 0);
        Due.is("STEP", x.count(3), 999);
    }

    private static void promise10aStepAbove999IsFull() {
        Due.is("steps(24) from 976", atStep(976).steps(24), Due.FULL);
        Due.is("steps(1) from 999", atStep(999).steps(1), Due.FULL);
    }

    private static void promise10badIsAheadOfFull() {
        YieldDoors x = atStep(999);
        Due.is("steps(0)", x.steps(0), Due.BAD);
        Due.is("steps(25)", x.steps(25), Due.BAD);
    }

    private static void promise10fullNoneIsGone() {
        YieldDoors x = atStep(990);
        x.come(0, 0);
        Due.is("steps(10)", x.steps(10), Due.FULL);
        Due.is("STEP", x.count(3), 990);
        Due.is("he WAITS", x.person(0, 2), 0);
        Due.is("undo()", x.undo(), 23);
        Due.is("he is THROUGH", x.person(0, 2), Due.NONE);
    }

    private static void promise10undoneThereIsRoomAgain() {
        YieldDoors x = atStep(999);
        x.undo();
        Due.is("steps(1)", x.steps(1), 0);
        Due.is("steps(1) more", x.steps(1), Due.FULL);
    }

    private static void promise10nobodyIsThereAndItIsAStep() {
        YieldDoors x = Due.told("m1,1;g0,0,0;");
        x.steps(1);
        Due.is("steps(1)", x.steps(1), 0);
        Due.is("STEP", x.count(3), 2);
        Due.is("count(6)", x.count(6), 2);
    }

    private static void promise10nobodyMayAndItIsAStep() {
        YieldDoors x = Due.told(Due.JUNIORS);
        Due.is("steps(5)", x.steps(5), 0);
        Due.is("STEP", x.count(3), 5);
        Due.is("all WAIT", x.door(0, 0), 127);
    }

    private static void promise10ofSeveralTheFirstGoes() {
        YieldDoors x = Due.told(Due.GUESTS);
        for (int one = 0; one < 7; one++) {
            Due.is("steps(1)", x.steps(1), 1);
            Due.is("THROUGH", x.count(4), (2 << one) - 1);
        }
    }

    private static void promise10theFirstOfThoseWhoMay() {
        YieldDoors x = Due.told("m1,1;j0,0,0;c1,0,0;c2,0,0;g1,0,0;");
        x.steps(1);
        Due.is("THROUGH", x.count(4), 4);
    }

    private static void promise10oneGoesAtEachDoor() {
        YieldDoors x = Due.told("m4,1;g0,0,0;g0,0,1;g0,0,2;g0,0,3;g0,0,0;g0,0,3;");
        Due.is("at four", x.steps(1), 4);
        Due.is("THROUGH", x.count(4), 15);
        Due.is("at two", x.steps(1), 2);
    }

    private static void promise10byAllAsTheyWaitAheadOfIt() {
        YieldDoors x = Due.told("m1,1;c1,0,0;c2,0,0;c3,0,0;");
        Due.is("one by one", x.steps(1), 1);
        Due.is("THROUGH", x.count(4), 4);
        Due.is("then the next", x.steps(1), 1);
        Due.is("THROUGH", x.count(4), 6);
    }

    private static void promise10whoIsNobodyIsSoForAStepLess() {
        YieldDoors x = Due.told("m2,3;g0,0,0;j0,0,0;j0,0,1;");
        x.bow(1);
        x.steps(1);
        Due.is("NOBODY for", x.person(1, 3), 2);
        Due.is("who is not", x.person(2, 3), 0);
    }

    private static void promise10nobodyForYardStepsAndNoMore() {
        YieldDoors x = Due.told("m1,2;g0,0,0;g0,0,0;g0,0,0;j0,0,0;");
        x.bow(3);
        x.steps(1);
        Due.is("NOBODY", x.count(5), 8);
        x.steps(1);
        Due.is("NOBODY no more", x.count(5), 0);
        x.steps(1);
        Due.is("never below 0", x.person(3, 3), 0);
    }

    private static void promise10whoGoesIsNobodyNoMore() {
        YieldDoors x = Due.told("m1,9;g0,0,0;");
        x.bow(0);
        x.steps(1);
        Due.is("NOBODY", x.count(5), 0);
        Due.is("for", x.person(0, 3), 0);
    }

    private static void promise10nobodyGoesAheadOfAllWhoMayNot() {
        YieldDoors x = Due.told(Due.JUNIORS);
        x.bow(6);
        x.bow(4);
        Due.is("steps(1)", x.steps(1), 1);
        Due.is("THROUGH", x.count(4), 16);
    }

    private static void promise10refusedItChangesNothing() {
        YieldDoors x = Due.busy();
        x.steps(0);
        x.steps(25);
        Due.alike(x, Due.busy());
    }

    // ---- promise 11

    private static void promise11withoutAMinistryItIsBad() {
        Due.is("come(0, 0)", new YieldDoors().come(0, 0), Due.BAD);
    }

    private static void promise11aPersonWhoIsNoneIsBad() {
        YieldDoors x = Due.told("m2,1;g0,0,0;g0,0,0;");
        Due.is("come(-1, 1)", x.come(-1, 1), Due.BAD);
        Due.is("come(2, 1)", x.come(2, 1), Due.BAD);
        Due.is("come(most, 1)", x.come(Due.MOST, 1), Due.BAD);
        Due.is("come(least, 1)", x.come(Due.LEAST, 1), Due.BAD);
        Due.is("come(1, 1)", x.come(1, 1), 0);
    }

    private static void promise11aDoorThatIsNoneIsBad() {
        YieldDoors x = Due.told("m2,1;g0,0,0;");
        x.steps(1);
        Due.is("come(0, -1)", x.come(0, -1), Due.BAD);
        Due.is("come(0, 2)", x.come(0, 2), Due.BAD);
        Due.is("come(0, NONE)", x.come(0, Due.NONE), Due.BAD);
        Due.is("come(0, least)", x.come(0, Due.LEAST), Due.BAD);
        Due.is("come(0, 1)", x.come(0, 1), Due.NONE);
    }

    private static void promise11whereHeWaitsIsState() {
        YieldDoors x = Due.told("m2,1;g0,0,0;");
        Due.is("come(0, 0)", x.come(0, 0), Due.STATE);
        Due.is("it is no ACT", x.count(6), 0);
        x.come(0, 1);
        Due.is("come(0, 1)", x.come(0, 1), Due.STATE);
        Due.is("one ACT", x.count(6), 1);
    }

    private static void promise11whereHeWas() {
        YieldDoors x = Due.told("m4,1;g0,0,0;");
        Due.is("come(0, 3)", x.come(0, 3), 0);
        Due.is("come(0, 0)", x.come(0, 0), 3);
        Due.is("come(0, 2)", x.come(0, 2), 0);
    }

    private static void promise11fromThroughItIsNone() {
        YieldDoors x = Due.told("m2,1;g0,0,0;");
        x.steps(1);
        Due.is("come(0, 0)", x.come(0, 0), Due.NONE);
        Due.is("he WAITS", x.door(0, 0), 1);
        Due.is("THROUGH", x.count(4), 0);
    }

    private static void promise11nobodyAsHeWas() {
        YieldDoors x = Due.told("m2,5;g0,0,0;j0,0,0;");
        x.bow(1);
        x.steps(1);
        x.come(1, 1);
        Due.is("NOBODY for", x.person(1, 3), 4);
        x.come(0, 1);
        Due.is("from THROUGH he is not", x.person(0, 3), 0);
    }

    private static void promise11itIsAnAct() {
        YieldDoors x = Due.told("m2,5;g0,0,0;");
        x.come(0, 1);
        Due.is("count(6)", x.count(6), 1);
    }

    private static void promise11refusedItChangesNothing() {
        YieldDoors x = Due.busy();
        x.come(0, 0);
        x.come(6, 0);
        x.come(0, 3);
        Due.alike(x, Due.busy());
    }

    // ---- promise 12

    private static void promise12withoutAMinistryItIsBad() {
        Due.is("bow(0)", new YieldDoors().bow(0), Due.BAD);
    }

    private static void promise12aPersonWhoIsNoneIsBad() {
        YieldDoors x = Due.told("m1,1;g0,0,0;g0,0,0;");
        Due.is("bow(-1)", x.bow(-1), Due.BAD);
        Due.is("bow(2)", x.bow(2), Due.BAD);
        Due.is("bow(least)", x.bow(Due.LEAST), Due.BAD);
        Due.is("bow(most)", x.bow(Due.MOST), Due.BAD);
    }

    private static void promise12whoIsThroughIsState() {
        YieldDoors x = Due.told("m1,1;g0,0,0;");
        x.steps(1);
        Due.is("bow(0)", x.bow(0), Due.STATE);
        Due.is("it is no ACT", x.count(6), 1);
        Due.is("he is not NOBODY", x.count(5), 0);
    }

    private static void promise12howManyAreNobodyAtAllDoors() {
        YieldDoors x = Due.told("m2,1;j0,0,0;j0,0,1;j0,0,0;");
        Due.is("bow(2)", x.bow(2), 1);
        Due.is("bow(1)", x.bow(1), 2);
        Due.is("bow(1) again", x.bow(1), 2);
        Due.is("bow(0)", x.bow(0), 3);
    }

    private static void promise12heIsNobodyForYardSteps() {
        for (int yard = 1; yard <= 9; yard += 8) {
            YieldDoors x = Due.told("m1," + yard + ";g0,0,0;");
            x.bow(0);
            Due.is("NOBODY for", x.person(0, 3), yard);
        }
    }

    private static void promise12whoBowsAgainIsNobodyForYardStepsAnew() {
        YieldDoors x = Due.told("m1,4;g0,0,0;g0,0,0;");
        x.bow(1);
        x.steps(1);
        x.bow(1);
        Due.is("NOBODY for", x.person(1, 3), 4);
    }

    private static void promise12eachIsAnAct() {
        YieldDoors x = Due.told("m1,4;g0,0,0;");
        x.bow(0);
        x.bow(0);
        Due.is("count(6)", x.count(6), 2);
    }

    private static void promise12refusedItChangesNothing() {
        YieldDoors x = Due.busy();
        x.bow(-1);
        x.bow(6);
        x.bow(4);
        Due.is("4 is THROUGH", x.person(4, 2), Due.NONE);
        Due.alike(x, Due.busy());
    }

    // ---- promise 13

    private static void promise13withoutAMinistryItIsBad() {
        Due.is("revise(0, 0, 0)", new YieldDoors().revise(0, 0, 0), Due.BAD);
    }

    private static void promise13aPersonWhoIsNoneIsBad() {
        YieldDoors x = Due.told("m1,1;g0,0,0;g0,0,0;");
        Due.is("revise(-1, 0, 1)", x.revise(-1, 0, 1), Due.BAD);
        Due.is("revise(2, 0, 1)", x.revise(2, 0, 1), Due.BAD);
        Due.is("revise(most, 0, 1)", x.revise(Due.MOST, 0, 1), Due.BAD);
    }

    private static void promise13whatIsNeitherRankNorHonourIsBad() {
        YieldDoors x = Due.told("m1,1;g3,4,0;");
        Due.is("revise(0, -1, 1)", x.revise(0, -1, 1), Due.BAD);
        Due.is("revise(0, 2, 1)", x.revise(0, 2, 1), Due.BAD);
        Due.is("RANK", x.person(0, 0), 3);
        Due.is("HONOUR", x.person(0, 1), 4);
    }

    private static void promise13below0IsBad() {
        YieldDoors x = Due.told("m1,1;g3,4,0;");
        Due.is("RANK -1", x.revise(0, 0, -1), Due.BAD);
        Due.is("HONOUR -1", x.revise(0, 1, -1), Due.BAD);
        Due.is("RANK least", x.revise(0, 0, Due.LEAST), Due.BAD);
    }

    private static void promise13above9IsBad() {
        YieldDoors x = Due.told("m1,1;g3,4,0;");
        Due.is("RANK 10", x.revise(0, 0, 10), Due.BAD);
        Due.is("HONOUR 10", x.revise(0, 1, 10), Due.BAD);
        Due.is("RANK most", x.revise(0, 0, Due.MOST), Due.BAD);
    }

    private static void promise13ranksOf0And9CanBe() {
        YieldDoors x = Due.told("m1,1;g3,4,0;");
        Due.is("RANK 0", x.revise(0, 0, 0), 3);
        Due.is("RANK 9", x.revise(0, 0, 9), 0);
        Due.is("RANK", x.person(0, 0), 9);
        Due.is("HONOUR stays", x.person(0, 1), 4);
    }

    private static void promise13honoursOf0And9CanBe() {
        YieldDoors x = Due.told("m1,1;g3,4,0;");
        Due.is("HONOUR 0", x.revise(0, 1, 0), 4);
        Due.is("HONOUR 9", x.revise(0, 1, 9), 0);
        Due.is("HONOUR", x.person(0, 1), 9);
        Due.is("RANK stays", x.person(0, 0), 3);
    }

    private static void promise13whoIsThroughCanBeRevised() {
        YieldDoors x = Due.told("m1,1;g3,4,0;");
        x.steps(1);
        Due.is("revise(0, 0, 5)", x.revise(0, 0, 5), 3);
        Due.is("RANK", x.person(0, 0), 5);
    }

    private static void promise13theNumberThatIsThereAlreadyCanBe() {
        YieldDoors x = Due.told("m1,1;g3,4,0;");
        Due.is("revise(0, 0, 3)", x.revise(0, 0, 3), 3);
        Due.is("RANK", x.person(0, 0), 3);
    }

    private static void promise13itIsAnAct() {
        YieldDoors x = Due.told("m1,1;g3,4,0;");
        x.revise(0, 0, 5);
        x.revise(0, 1, 5);
        Due.is("count(6)", x.count(6), 2);
    }

    private static void promise13whoGivesWayChangesAtOnce() {
        YieldDoors x = Due.told("m1,1;c3,0,0;c5,0,0;");
        Due.is("ahead of it", x.door(0, 1), 1);
        x.revise(0, 0, 6);
        Due.is("behind it", x.door(0, 1), 0);
        Due.is("to none", x.person(0, 5), 0);
        Due.is("to the first", x.person(1, 5), 1);
    }

    private static void promise13refusedItChangesNothing() {
        YieldDoors x = Due.busy();
        x.revise(6, 0, 0);
        x.revise(0, 2, 0);
        x.revise(0, 0, 10);
        Due.alike(x, Due.busy());
    }

    // ---- promise 14

    private static void promise14withoutAMinistryItIsBad() {
        for (int what = 0; what <= 5; what++) {
            Due.is("person(0, " + what + ")", new YieldDoors().person(0, what), Due.BAD);
        }
    }

    private static void promise14aPersonWhoIsNoneIsBad() {
        YieldDoors x = Due.told("m1,1;g0,0,0;g0,0,0;");
        Due.is("person(-1, 0)", x.person(-1, 0), Due.BAD);
        Due.is("person(2, 0)", x.person(2, 0), Due.BAD);
        Due.is("person(2, 4)", x.person(2, 4), Due.BAD);
        Due.is("person(most, 5)", x.person(Due.MOST, 5), Due.BAD);
        Due.is("person(least, 5)", x.person(Due.LEAST, 5), Due.BAD);
    }

    private static void promise14whatIsNotAskedIsBad() {
        YieldDoors x = Due.told("m1,1;g0,0,0;");
        Due.is("person(0, -1)", x.person(0, -1), Due.BAD);
        Due.is("person(0, 6)", x.person(0, 6), Due.BAD);
        Due.is("person(0, most)", x.person(0, Due.MOST), Due.BAD);
    }

    private static void promise14ofWhoIsThrough() {
        YieldDoors x = Due.told("m1,3;j7,8,0;j1,1,0;");
        x.bow(0);
        x.steps(1);
        int[] want = {7, 8, Due.NONE, 0, 0, 0};
        for (int what = 0; what <= 5; what++) {
            Due.is("person(0, " + what + ")", x.person(0, what), want[what]);
        }
    }

    private static void promise14theLastPersonAndTheLastDoor() {
        YieldDoors x = Due.told("m4,1;g0,0,0;g0,0,0;g0,0,0;g0,0,0;g0,0,0;g0,0,0;b8,9,3;");
        Due.is("RANK", x.person(6, 0), 8);
        Due.is("HONOUR", x.person(6, 1), 9);
        Due.is("DOOR", x.person(6, 2), 3);
        Due.is("MAY", x.person(6, 4), 1);
    }

    private static void promise14aClerkGivesWayToAGreaterRankAlone() {
        YieldDoors x = Due.told("m1,1;c5,0,0;g4,9,0;g5,9,0;g6,9,0;");
        Due.is("to whom", x.person(0, 5), 8);
        Due.is("MAY", x.person(0, 4), 0);
        x.revise(3, 0, 5);
        Due.is("to none", x.person(0, 5), 0);
        Due.is("MAY", x.person(0, 4), 1);
    }

    private static void promise14aSecretaryGivesWayToOneAlikeToo() {
        YieldDoors x = Due.told("m1,1;s5,0,0;g4,9,0;g5,9,0;g6,9,0;");
        Due.is("to whom", x.person(0, 5), 12);
        x.revise(3, 0, 4);
        x.revise(2, 0, 4);
        Due.is("to none", x.person(0, 5), 0);
    }

    private static void promise14aJuniorGivesWayAlways() {
        YieldDoors x = Due.told("m1,1;j9,9,0;g0,0,0;j0,0,0;b0,0,0;");
        Due.is("to whom", x.person(0, 5), 14);
        Due.is("MAY", x.person(0, 4), 0);
    }

    private static void promise14aGuestGivesWayNever() {
        YieldDoors x = Due.told("m1,1;g0,0,0;g9,9,0;j9,9,0;");
        Due.is("to whom", x.person(0, 5), 0);
        Due.is("MAY", x.person(0, 4), 1);
    }

    private static void promise14oneWhoBowsGivesWayToAGreaterHonourAlone() {
        YieldDoors x = Due.told("m1,1;b0,5,0;g9,4,0;g9,5,0;g9,6,0;");
        Due.is("to whom", x.person(0, 5), 8);
        x.revise(3, 1, 5);
        Due.is("to none", x.person(0, 5), 0);
        Due.is("MAY", x.person(0, 4), 1);
    }

    private static void promise14nobodyGivesWayToHimself() {
        YieldDoors x = Due.told("m2,1;s5,0,0;j5,0,1;");
        Due.is("a secretary alone", x.person(0, 5), 0);
        Due.is("he MAY", x.person(0, 4), 1);
        Due.is("a junior alone", x.person(1, 5), 0);
        Due.is("he MAY, too", x.person(1, 4), 1);
    }

    private static void promise14nobodyIsNotGivenWayTo() {
        YieldDoors x = Due.told("m1,2;j0,0,0;g0,0,0;c0,0,0;");
        x.bow(1);
        Due.is("to whom", x.person(0, 5), 4);
        x.bow(2);
        Due.is("to none", x.person(0, 5), 0);
        Due.is("MAY", x.person(0, 4), 1);
    }

    private static void promise14whoIsNobodyHimselfMay() {
        YieldDoors x = Due.told(Due.JUNIORS);
        x.bow(3);
        Due.is("MAY", x.person(3, 4), 1);
        Due.is("another", x.person(2, 4), 0);
    }

    private static void promise14whoIsNobodyHimselfGivesWayByHisKind() {
        YieldDoors x = Due.told("m1,2;j0,0,0;g0,0,0;");
        x.bow(0);
        Due.is("to whom", x.person(0, 5), 2);
    }

    private static void promise14atAnotherDoorNobodyIsGivenWayTo() {
        YieldDoors x = Due.told("m2,2;j0,0,0;g0,0,1;");
        Due.is("to none", x.person(0, 5), 0);
        x.come(1, 0);
        Due.is("to him who comes", x.person(0, 5), 2);
    }

    private static void promise14whoIsThroughIsNotGivenWayTo() {
        YieldDoors x = Due.told("m1,2;j0,0,0;g0,0,0;");
        x.steps(1);
        Due.is("to none", x.person(0, 5), 0);
        Due.is("MAY", x.person(0, 4), 1);
    }

    private static void promise14forHowManyStepsHeIsNobodyYet() {
        YieldDoors x = Due.told("m1,2;g0,0,0;g0,0,0;j0,0,0;");
        Due.is("never", x.person(2, 3), 0);
        x.bow(2);
        Due.is("a YARD", x.person(2, 3), 2);
        x.steps(1);
        Due.is("one less", x.person(2, 3), 1);
        x.steps(1);
        Due.is("no more", x.person(2, 3), 0);
    }

    private static void promise14askingChangesNothing() {
        YieldDoors x = Due.busy();
        for (int what = -1; what <= 6; what++) {
            x.person(0, what);
            x.person(6, what);
        }
        Due.alike(x, Due.busy());
    }

    // ---- promise 15

    private static void promise15withoutAMinistryItIsStateAheadOfBad() {
        YieldDoors x = new YieldDoors();
        Due.is("door(0, 0)", x.door(0, 0), Due.STATE);
        Due.is("door(-1, 0)", x.door(-1, 0), Due.STATE);
        Due.is("door(0, 2)", x.door(0, 2), Due.STATE);
    }

    private static void promise15aDoorThatIsNoneIsBad() {
        YieldDoors x = Due.told("m2,1;g0,0,0;");
        Due.is("door(-1, 0)", x.door(-1, 0), Due.BAD);
        Due.is("door(2, 0)", x.door(2, 0), Due.BAD);
        Due.is("door(2, 1)", x.door(2, 1), Due.BAD);
        Due.is("door(most, 1)", x.door(Due.MOST, 1), Due.BAD);
        Due.is("door(least, 1)", x.door(Due.LEAST, 1), Due.BAD);
    }

    private static void promise15whatIsNotAskedIsBad() {
        YieldDoors x = Due.told("m2,1;g0,0,0;");
        Due.is("door(0, -1)", x.door(0, -1), Due.BAD);
        Due.is("door(0, 2)", x.door(0, 2), Due.BAD);
    }

    private static void promise15nobodyWaitsThere() {
        YieldDoors x = Due.told("m2,1;g0,0,0;");
        Due.is("who", x.door(1, 0), 0);
        Due.is("who goes", x.door(1, 1), Due.NONE);
        x.steps(1);
        Due.is("who, THROUGH", x.door(0, 0), 0);
        Due.is("who goes, THROUGH", x.door(0, 1), Due.NONE);
    }

    private static void promise15allWaitThere() {
        YieldDoors x = Due.told(Due.GUESTS);
        Due.is("who", x.door(0, 0), 127);
        Due.is("who goes", x.door(0, 1), 0);
    }

    private static void promise15nobodyMay() {
        Due.is("who goes", Due.told(Due.JUNIORS).door(0, 1), Due.NONE);
    }

    private static void promise15theLastOneGoes() {
        YieldDoors x = Due.told(Due.JUNIORS);
        x.bow(6);
        Due.is("who goes", x.door(0, 1), 6);
    }

    private static void promise15theLastDoor() {
        YieldDoors x = Due.told("m4,1;g0,0,0;g0,0,3;");
        Due.is("who", x.door(3, 0), 2);
        Due.is("who goes", x.door(3, 1), 1);
    }

    private static void promise15askingChangesNothing() {
        YieldDoors x = Due.busy();
        for (int door = -1; door <= 3; door++) {
            x.door(door, 0);
            x.door(door, 1);
            x.door(door, 2);
        }
        Due.alike(x, Due.busy());
    }
}
