/** The edges of promises 16 to 24, 27 and 28: what is foretold of STEPS, of DOORS, and of the LAW. */
public final class ForetoldEdgeTest {
    private static final String TWO_DOORS = "m2,3;s5,0,0;s5,0,0;g0,0,1;";

    public static void main(String[] args) throws IllegalAccessException {
        Edges.run(ForetoldEdgeTest.class);
    }

    private static YieldDoors allThrough() {
        YieldDoors x = Due.told("m2,3;g1,0,0;g2,0,0;");
        x.steps(2);
        return x;
    }

    // ---- promise 16

    private static void promise16withoutAMinistryItIsBad() {
        Due.is("ahead(0, 0)", new YieldDoors().ahead(0, 0), Due.BAD);
    }

    private static void promise16aPersonWhoIsNoneIsBad() {
        YieldDoors x = Due.told(TWO_DOORS);
        Due.is("ahead(-1, 0)", x.ahead(-1, 0), Due.BAD);
        Due.is("ahead(3, 0)", x.ahead(3, 0), Due.BAD);
        Due.is("ahead(most, 0)", x.ahead(Due.MOST, 0), Due.BAD);
    }

    private static void promise16stepsBelow0AreBad() {
        YieldDoors x = Due.told(TWO_DOORS);
        Due.is("ahead(0, -1)", x.ahead(0, -1), Due.BAD);
        Due.is("ahead(0, least)", x.ahead(0, Due.LEAST), Due.BAD);
    }

    private static void promise16stepsAbove60AreBad() {
        YieldDoors x = Due.told(TWO_DOORS);
        Due.is("ahead(2, 61)", x.ahead(2, 61), Due.BAD);
        Due.is("ahead(2, most)", x.ahead(2, Due.MOST), Due.BAD);
    }

    private static void promise16by0StepsItIsAsNow() {
        YieldDoors x = Due.told("m1,1;g0,0,0;g0,0,0;");
        x.steps(1);
        Due.is("who is THROUGH", x.ahead(0, 0), 1);
        Due.is("who WAITS", x.ahead(1, 0), 0);
    }

    private static void promise16by60Steps() {
        YieldDoors x = Due.told(TWO_DOORS);
        Due.is("who goes", x.ahead(2, 60), 1);
        Due.is("who is stuck", x.ahead(0, 60), 0);
    }

    private static void promise16fromTheStepOnInWhichHeGoes() {
        YieldDoors x = Due.told(Due.GUESTS);
        Due.is("the last, ahead of it", x.ahead(6, 6), 0);
        Due.is("the last, behind it", x.ahead(6, 7), 1);
        Due.is("the first, ahead of it", x.ahead(0, 0), 0);
        Due.is("the first, behind it", x.ahead(0, 1), 1);
    }

    private static void promise16beyondStep999ItIsForetoldToo() {
        YieldDoors x = Due.told("m1,1;g0,0,0;");
        for (int i = 0; i < 41; i++) {
            x.steps(24);
        }
        x.steps(15);
        x.come(0, 0);
        Due.is("steps(1)", x.steps(1), Due.FULL);
        Due.is("ahead(0, 1)", x.ahead(0, 1), 1);
    }

    private static void promise16nobodyRunsOutAhead() {
        YieldDoors x = Due.told("m1,2;g0,0,0;g0,0,0;j0,0,0;j0,0,0;");
        x.bow(2);
        Due.is("NOBODY too short", x.ahead(2, 60), 0);
        x.revise(2, 0, 0);
        YieldDoors y = Due.told("m1,3;g0,0,0;g0,0,0;j0,0,0;j0,0,0;");
        y.bow(2);
        Due.is("NOBODY long enough", y.ahead(2, 3), 1);
        Due.is("then the other is alone", y.ahead(3, 4), 1);
    }

    // ---- promise 17

    private static void promise17withoutAMinistryItIsStateAheadOfBad() {
        YieldDoors x = new YieldDoors();
        Due.is("waitAhead(0, 0)", x.waitAhead(0, 0), Due.STATE);
        Due.is("waitAhead(-1, 0)", x.waitAhead(-1, 0), Due.STATE);
        Due.is("waitAhead(0, 61)", x.waitAhead(0, 61), Due.STATE);
    }

    private static void promise17aDoorThatIsNoneIsBad() {
        YieldDoors x = Due.told(TWO_DOORS);
        Due.is("waitAhead(-1, 0)", x.waitAhead(-1, 0), Due.BAD);
        Due.is("waitAhead(2, 0)", x.waitAhead(2, 0), Due.BAD);
    }

    private static void promise17stepsBelow0AreBad() {
        Due.is("waitAhead(0, -1)", Due.told(TWO_DOORS).waitAhead(0, -1), Due.BAD);
    }

    private static void promise17stepsAbove60AreBad() {
        Due.is("waitAhead(0, 61)", Due.told(TWO_DOORS).waitAhead(0, 61), Due.BAD);
    }

    private static void promise17by0StepsItIsAsNow() {
        YieldDoors x = Due.told(TWO_DOORS);
        Due.is("waitAhead(0, 0)", x.waitAhead(0, 0), 2);
        Due.is("waitAhead(1, 0)", x.waitAhead(1, 0), 1);
    }

    private static void promise17by60Steps() {
        YieldDoors x = Due.told(TWO_DOORS);
        Due.is("who is stuck", x.waitAhead(0, 60), 2);
        Due.is("none", x.waitAhead(1, 60), 0);
    }

    private static void promise17oneLessByEachStep() {
        YieldDoors x = Due.told(Due.GUESTS);
        for (int n = 0; n <= 8; n++) {
            Due.is("waitAhead(0, " + n + ")", x.waitAhead(0, n), Math.max(0, 7 - n));
        }
    }

    private static void promise17ofAnEmptyDoorItIs0() {
        Due.is("waitAhead(0, 9)", allThrough().waitAhead(0, 9), 0);
    }

    // ---- promise 18

    private static void promise18withoutAMinistryItIsBad() {
        Due.is("goes(0)", new YieldDoors().goes(0), Due.BAD);
    }

    private static void promise18aPersonWhoIsNoneIsBad() {
        YieldDoors x = Due.told(TWO_DOORS);
        Due.is("goes(-1)", x.goes(-1), Due.BAD);
        Due.is("goes(3)", x.goes(3), Due.BAD);
        Due.is("goes(least)", x.goes(Due.LEAST), Due.BAD);
    }

    private static void promise18whoIsThroughGoesBehind0() {
        Due.is("goes(0)", allThrough().goes(0), 0);
    }

    private static void promise18whoMayGoesBehind1() {
        Due.is("goes(2)", Due.told(TWO_DOORS).goes(2), 1);
    }

    private static void promise18theLastOfSevenGoesBehind7() {
        Due.is("goes(6)", Due.told(Due.GUESTS).goes(6), 7);
    }

    private static void promise18whoIsStuckGoesNever() {
        Due.is("goes(0)", Due.told(TWO_DOORS).goes(0), Due.NONE);
    }

    // ---- promise 19

    private static void promise19withoutAMinistryItIsState() {
        Due.is("stuck()", new YieldDoors().stuck(), Due.STATE);
    }

    private static void promise19nobodyIsStuck() {
        Due.is("all go", Due.told(Due.GUESTS).stuck(), 0);
        Due.is("all are THROUGH", allThrough().stuck(), 0);
    }

    private static void promise19whoIsThroughIsNotStuckBesideAnother() {
        YieldDoors x = Due.told("m2,1;j0,0,0;j0,0,1;");
        x.steps(1);
        Due.is("stuck()", x.stuck(), 0);
    }

    private static void promise19allAreStuck() {
        Due.is("stuck()", Due.told(Due.JUNIORS).stuck(), 127);
    }

    private static void promise19atEachDoor() {
        YieldDoors x = Due.told("m4,1;j0,0,0;j0,0,0;g0,0,1;g0,0,2;j0,0,3;j0,0,3;");
        Due.is("stuck()", x.stuck(), 51);
    }

    private static void promise19whoIsNobodyLongEnoughIsNot() {
        YieldDoors x = Due.told("m1,1;j0,0,0;j0,0,0;j0,0,0;");
        x.bow(1);
        Due.is("one", x.stuck(), 5);
        x.bow(0);
        Due.is("the first of two, by a YARD of 1", x.stuck(), 6);
    }

    // ---- promise 20

    private static void promise20withoutAMinistryItIsStateAheadOfBad() {
        YieldDoors x = new YieldDoors();
        Due.is("ring(0, 0)", x.ring(0, 0), Due.STATE);
        Due.is("ring(-1, 0)", x.ring(-1, 0), Due.STATE);
        Due.is("ring(0, 2)", x.ring(0, 2), Due.STATE);
    }

    private static void promise20aDoorThatIsNoneIsBad() {
        YieldDoors x = Due.told(TWO_DOORS);
        Due.is("ring(-1, 0)", x.ring(-1, 0), Due.BAD);
        Due.is("ring(2, 0)", x.ring(2, 0), Due.BAD);
    }

    private static void promise20whatIsNotAskedIsBad() {
        YieldDoors x = Due.told(TWO_DOORS);
        Due.is("ring(0, -1)", x.ring(0, -1), Due.BAD);
        Due.is("ring(0, 2)", x.ring(0, 2), Due.BAD);
    }

    private static void ringOf(YieldDoors x, int many, int which) {
        Due.is("ring(0, 0)", x.ring(0, 0), many);
        Due.is("ring(0, 1)", x.ring(0, 1), which);
    }

    private static void promise20nobodyIsThere() {
        ringOf(allThrough(), Due.NONE, Due.NONE);
    }

    private static void promise20oneAloneIsNoRing() {
        ringOf(Due.told("m1,1;j0,0,0;"), Due.NONE, Due.NONE);
        ringOf(Due.told("m1,1;s9,9,0;"), Due.NONE, Due.NONE);
    }

    private static void promise20waitingWithoutGoingRoundIsNone() {
        ringOf(Due.told("m1,1;c1,0,0;c2,0,0;c3,0,0;"), Due.NONE, Due.NONE);
        ringOf(Due.told("m1,1;j1,0,0;g2,0,0;"), Due.NONE, Due.NONE);
    }

    private static void promise20ofSeveralTheLeast() {
        ringOf(Due.told(Due.JUNIORS), 2, 3);
        // 1 and 4, bits 18, go round; 2 and 3, bits 12, too
        ringOf(Due.told("m1,1;g0,0,0;s3,3,0;s8,5,0;s8,5,0;s3,3,0;"), 2, 12);
    }

    private static void promise20theGreatestOne() {
        ringOf(Due.told("m1,1;g0,0,0;g0,0,0;g0,0,0;g0,0,0;g0,0,0;j0,0,0;j0,0,0;"), 2, 96);
    }

    private static void promise20byTwoOrders() {
        // the clerk gives way by RANK, the one who bows by HONOUR
        ringOf(Due.told("m1,1;c1,9,0;b2,8,0;"), 2, 3);
        ringOf(Due.told("m1,1;c1,9,0;b2,9,0;"), Due.NONE, Due.NONE);
        ringOf(Due.told("m1,1;c2,9,0;b2,8,0;"), Due.NONE, Due.NONE);
    }

    private static void promise20whoIsNobodyIsNotInIt() {
        YieldDoors x = Due.told("m1,9;j0,0,0;j0,0,0;j0,0,0;");
        x.bow(0);
        ringOf(x, 2, 6);
        x.bow(1);
        ringOf(x, Due.NONE, Due.NONE);
    }

    private static void promise20whoWaitsElsewhereIsNotInIt() {
        ringOf(Due.told("m2,1;j0,0,0;j0,0,1;"), Due.NONE, Due.NONE);
    }

    // ---- promise 21

    private static void promise21withoutAMinistryItIsStateAheadOfBad() {
        YieldDoors x = new YieldDoors();
        Due.is("bows(0, 0)", x.bows(0, 0), Due.STATE);
        Due.is("bows(-1, 0)", x.bows(-1, 0), Due.STATE);
        Due.is("bows(0, 2)", x.bows(0, 2), Due.STATE);
    }

    private static void promise21aDoorThatIsNoneIsBad() {
        YieldDoors x = Due.told(TWO_DOORS);
        Due.is("bows(-1, 0)", x.bows(-1, 0), Due.BAD);
        Due.is("bows(2, 0)", x.bows(2, 0), Due.BAD);
    }

    private static void promise21whatIsNotAskedIsBad() {
        YieldDoors x = Due.told(TWO_DOORS);
        Due.is("bows(0, -1)", x.bows(0, -1), Due.BAD);
        Due.is("bows(0, 2)", x.bows(0, 2), Due.BAD);
    }

    private static void bowsOf(YieldDoors x, int many, int which) {
        Due.is("bows(0, 0)", x.bows(0, 0), many);
        Due.is("bows(0, 1)", x.bows(0, 1), which);
    }

    private static void promise21noneNeedBow() {
        bowsOf(Due.told(Due.GUESTS), 0, 0);
        bowsOf(allThrough(), 0, 0);
    }

    private static void promise21allButOneOfSeven() {
        bowsOf(Due.told(Due.JUNIORS.replace("m1,1", "m1,6")), 6, 63);
    }

    private static void promise21theYardIsTooShort() {
        bowsOf(Due.told(Due.JUNIORS.replace("m1,1", "m1,5")), Due.NONE, Due.NONE);
        bowsOf(Due.told("m1,1;j0,0,0;j0,0,0;j0,0,0;"), Due.NONE, Due.NONE);
    }

    private static void promise21theYardIsLongEnough() {
        bowsOf(Due.told("m1,2;j0,0,0;j0,0,0;j0,0,0;"), 2, 3);
    }

    private static void promise21ofSeveralTheLeast() {
        // 1 or 2 may BOW for the other
        bowsOf(Due.told("m1,1;g0,0,0;s5,0,0;s5,0,0;"), Due.NONE, Due.NONE);
        bowsOf(Due.told("m1,2;g0,0,0;s5,0,0;s5,0,0;"), 1, 2);
    }

    private static void promise21onlyTheLastHelps() {
        // 6 waits for 4 and 5, and each of these for 6
        bowsOf(Due.told("m1,9;g0,0,0;g0,0,0;g0,0,0;g0,0,0;c1,9,0;c1,9,0;b2,8,0;"), 1, 64);
    }

    private static void promise21whoIsNobodyMayBowAnew() {
        YieldDoors x = Due.told("m1,2;g0,0,0;j0,0,0;g0,0,0;j0,0,0;");
        x.bow(1);
        x.steps(1);
        // 1 is NOBODY for a STEP yet and goes in it; then 2, and 3 alone
        bowsOf(x, 0, 0);
        YieldDoors y = Due.told("m1,3;g0,0,0;g0,0,0;g0,0,0;j0,0,0;j0,0,0;");
        y.bow(3);
        // 3 is NOBODY for 3 STEPS, in which 0, 1, 2 go; in the STEP behind them he is not
        bowsOf(y, Due.NONE, Due.NONE);
        y.steps(1);
        bowsOf(y, 1, 8);
    }

    private static void promise21allAtOnceNow() {
        // each of 3 pairs alone is freed by one; together a YARD of 3 serves for 3
        bowsOf(Due.told("m1,3;s1,0,0;s1,0,0;s2,0,0;s2,0,0;s3,0,0;s3,0,0;"), 3, 21);
    }

    // ---- promise 22

    private static void promise22withoutAMinistryItIsStateAheadOfBad() {
        YieldDoors x = new YieldDoors();
        Due.is("raise(0)", x.raise(0), Due.STATE);
        Due.is("raise(-1)", x.raise(-1), Due.STATE);
    }

    private static void promise22aDoorThatIsNoneIsBad() {
        YieldDoors x = Due.told(TWO_DOORS);
        Due.is("raise(-1)", x.raise(-1), Due.BAD);
        Due.is("raise(2)", x.raise(2), Due.BAD);
        Due.is("raise(most)", x.raise(Due.MOST), Due.BAD);
    }

    private static void promise22noneNeedBe() {
        Due.is("all go", Due.told(Due.GUESTS).raise(0), 0);
        Due.is("nobody is there", allThrough().raise(0), 0);
    }

    private static void promise22noneHelps() {
        Due.is("raise(0)", Due.told(Due.JUNIORS).raise(0), Due.NONE);
    }

    private static void promise22theLeastChangeOfTheFirst() {
        Due.is("down, as that RANK is less", Due.told("m1,1;s5,0,0;s5,0,0;").raise(0), 104);
    }

    private static void promise22rank0CanNotBeLess() {
        Due.is("raise(0)", Due.told("m1,1;s0,0,0;s0,0,0;").raise(0), 101);
    }

    private static void promise22rank9CanNotBeMore() {
        Due.is("raise(0)", Due.told("m1,1;s9,0,0;s9,0,0;").raise(0), 108);
    }

    private static void promise22toRank9ByNine() {
        Due.is("raise(0)", Due.told("m1,1;c0,5,0;b9,1,0;").raise(0), 909);
    }

    private static void promise22toRank0OfAnotherOne() {
        // the clerks give way to 2 by RANK, he to them by HONOUR: he must be as low as they are
        Due.is("raise(0)", Due.told("m1,1;c0,5,0;c0,5,0;b3,1,0;").raise(0), 320);
    }

    private static void promise22theChangeCountsMoreThanThePerson() {
        // 0 by four up, or 3 by two down
        Due.is("raise(0)", Due.told("m1,1;c1,9,0;g0,0,0;g0,0,0;b3,8,0;").raise(0), 203);
    }

    private static void promise22ofAlikeChangesThePersonCounts() {
        Due.is("raise(0)", Due.told("m1,1;g0,0,0;s4,0,0;s4,0,0;").raise(0), 113);
    }

    private static void promise22whoWaitsElsewhereIsNotRaised() {
        Due.is("raise(1)", Due.told("m2,1;g0,0,0;s4,0,1;s4,0,1;").raise(1), 113);
    }

    private static void promise22byRanksAsTheyAreNow() {
        YieldDoors x = Due.told("m1,1;c1,9,0;b2,8,0;");
        Due.is("1 by one up", x.raise(0), 102);
        x.revise(1, 0, 9);
        Due.is("1 by eight up", x.raise(0), 809);
    }

    // ---- promise 23

    private static void promise23withoutAMinistryItIsStateAheadOfBad() {
        YieldDoors x = new YieldDoors();
        Due.is("third(0, 0)", x.third(0, 0), Due.STATE);
        Due.is("third(-1, 0)", x.third(-1, 0), Due.STATE);
        Due.is("third(0, 2)", x.third(0, 2), Due.STATE);
    }

    private static void promise23aDoorThatIsNoneIsBad() {
        YieldDoors x = Due.told(TWO_DOORS);
        Due.is("third(-1, 0)", x.third(-1, 0), Due.BAD);
        Due.is("third(2, 0)", x.third(2, 0), Due.BAD);
    }

    private static void promise23whatIsNotAskedIsBad() {
        YieldDoors x = Due.told(TWO_DOORS);
        Due.is("third(0, -1)", x.third(0, -1), Due.BAD);
        Due.is("third(0, 2)", x.third(0, 2), Due.BAD);
    }

    private static void thirdAt(YieldDoors x, int door, int who, int many) {
        Due.is("third(" + door + ", 0)", x.third(door, 0), who);
        Due.is("third(" + door + ", 1)", x.third(door, 1), many);
    }

    private static void promise23allWaitThereAlready() {
        thirdAt(Due.told(Due.GUESTS), 0, Due.NONE, Due.NONE);
    }

    private static void promise23whoIsThrough() {
        YieldDoors x = Due.told("m1,1;g0,0,0;g0,0,0;");
        x.steps(1);
        thirdAt(x, 0, 0, 0);
    }

    private static void promise23whoWaitsElsewhere() {
        thirdAt(Due.told("m2,1;g0,0,0;g0,0,1;"), 0, 1, 0);
        thirdAt(Due.told("m2,1;g0,0,0;g0,0,1;"), 1, 0, 0);
    }

    private static void promise23ofSeveralTheFirst() {
        YieldDoors x = Due.told("m2,1;j0,0,0;j0,0,0;g0,0,1;g1,1,1;g2,2,1;");
        thirdAt(x, 0, 2, 2);
        x.steps(1);
        thirdAt(x, 0, 2, 2);
    }

    private static void promise23theFewestNotTheFirst() {
        thirdAt(Due.told("m2,1;j0,0,0;j0,0,1;j0,0,1;g0,0,1;"), 0, 3, 0);
    }

    private static void promise23theFirstIfHeMakesTheFewest() {
        thirdAt(Due.told("m2,1;j0,0,0;g0,0,1;j0,0,1;"), 0, 1, 0);
    }

    private static void promise23allSevenWaitThereThen() {
        thirdAt(Due.told("m2,1;j0,0,0;j0,0,0;j0,0,0;j0,0,0;j0,0,0;j0,0,0;j0,0,1;"), 0, 6, 7);
    }

    private static void promise23heCountsHimself() {
        // whoever comes is stuck with the one who is there
        thirdAt(Due.told("m2,1;j0,0,0;j0,0,1;j0,0,1;"), 0, 1, 2);
    }

    private static void promise23ifHeWaitsElsewhereAsNobodyHeComesAsNobody() {
        YieldDoors x = Due.told("m2,3;j0,0,0;j0,0,1;j0,0,1;");
        x.bow(2);
        thirdAt(x, 0, 2, 0);
    }

    private static void promise23toAnEmptyDoor() {
        thirdAt(Due.told("m2,1;j0,0,0;j0,0,0;"), 1, 0, 0);
    }

    // ---- promise 24

    private static void promise24withoutAMinistryItIsBad() {
        Due.is("bestDoor(0, 0)", new YieldDoors().bestDoor(0, 0), Due.BAD);
    }

    private static void promise24aPersonWhoIsNoneIsBad() {
        YieldDoors x = Due.told(TWO_DOORS);
        Due.is("bestDoor(-1, 0)", x.bestDoor(-1, 0), Due.BAD);
        Due.is("bestDoor(3, 0)", x.bestDoor(3, 0), Due.BAD);
    }

    private static void promise24whatIsNotAskedIsBad() {
        YieldDoors x = Due.told(TWO_DOORS);
        Due.is("bestDoor(0, -1)", x.bestDoor(0, -1), Due.BAD);
        Due.is("bestDoor(0, 2)", x.bestDoor(0, 2), Due.BAD);
    }

    private static void promise24whoIsThroughIsState() {
        YieldDoors x = allThrough();
        Due.is("bestDoor(0, 0)", x.bestDoor(0, 0), Due.STATE);
        Due.is("bestDoor(0, 1)", x.bestDoor(0, 1), Due.STATE);
    }

    private static void promise24badIsAheadOfState() {
        Due.is("bestDoor(0, 2)", allThrough().bestDoor(0, 2), Due.BAD);
    }

    private static void bestOf(YieldDoors x, int one, int door, int steps) {
        Due.is("bestDoor(" + one + ", 0)", x.bestDoor(one, 0), door);
        Due.is("bestDoor(" + one + ", 1)", x.bestDoor(one, 1), steps);
    }

    private static void promise24ofSeveralTheFirst() {
        bestOf(Due.told("m4,1;g0,0,3;"), 0, 0, 1);
    }

    private static void promise24theSoonestNotTheFirst() {
        bestOf(Due.told("m4,1;g0,0,0;g0,0,1;g0,0,2;j0,0,0;"), 3, 3, 1);
        bestOf(Due.told("m2,1;g0,0,0;g0,0,0;j0,0,0;g0,0,1;"), 2, 1, 2);
    }

    private static void promise24whereHeWaitsIsAsItIs() {
        bestOf(Due.told("m2,1;g0,0,1;j0,0,0;g0,0,1;"), 2, 0, 1);
        bestOf(Due.told("m1,1;g0,0,0;g0,0,0;"), 1, 0, 2);
    }

    private static void promise24theLastOfSeven() {
        bestOf(Due.told(Due.GUESTS), 6, 0, 7);
    }

    private static void promise24atNoneHeIsEverThrough() {
        bestOf(Due.told("m2,1;j0,0,0;j0,0,0;j0,0,1;"), 0, Due.NONE, Due.NONE);
    }

    private static void promise24nobodyAsHeIs() {
        YieldDoors x = Due.told("m2,1;j0,0,1;j0,0,0;j0,0,0;j0,0,1;");
        bestOf(x, 0, Due.NONE, Due.NONE);
        x.bow(0);
        bestOf(x, 0, 0, 1);
    }

    // ---- promise 27

    private static void promise27withoutAMinistryItIsStateAheadOfBad() {
        YieldDoors x = new YieldDoors();
        Due.is("precedence(0, 0)", x.precedence(0, 0), Due.STATE);
        Due.is("precedence(-1, 0)", x.precedence(-1, 0), Due.STATE);
        Due.is("precedence(0, -1)", x.precedence(0, -1), Due.STATE);
    }

    private static void promise27aDoorThatIsNoneIsBad() {
        YieldDoors x = Due.told(TWO_DOORS);
        Due.is("precedence(-1, 0)", x.precedence(-1, 0), Due.BAD);
        Due.is("precedence(2, 0)", x.precedence(2, 0), Due.BAD);
    }

    private static void promise27kBelow0IsBad() {
        YieldDoors x = Due.told(TWO_DOORS);
        Due.is("precedence(1, -1)", x.precedence(1, -1), Due.BAD);
        Due.is("precedence(1, least)", x.precedence(1, Due.LEAST), Due.BAD);
    }

    private static void promise27fromTheFirstToTheLast() {
        YieldDoors x = Due.told("m1,1;c1,0,0;c2,0,0;c3,0,0;c4,0,0;c5,0,0;c6,0,0;c7,0,0;");
        for (int k = 0; k < 7; k++) {
            Due.is("precedence(0, " + k + ")", x.precedence(0, k), 6 - k);
        }
    }

    private static void promise27behindTheLastThereIsNone() {
        YieldDoors x = Due.told(Due.GUESTS);
        Due.is("precedence(0, 7)", x.precedence(0, 7), Due.NONE);
        Due.is("precedence(0, 60)", x.precedence(0, 60), Due.NONE);
        Due.is("precedence(0, most)", x.precedence(0, Due.MOST), Due.NONE);
    }

    private static void promise27ofWhoIsStuckThereIsNone() {
        YieldDoors x = Due.told("m1,1;g0,0,0;j0,0,0;j0,0,0;");
        Due.is("precedence(0, 0)", x.precedence(0, 0), 0);
        Due.is("precedence(0, 1)", x.precedence(0, 1), Due.NONE);
    }

    private static void promise27atAnEmptyDoorThereIsNone() {
        Due.is("precedence(0, 0)", allThrough().precedence(0, 0), Due.NONE);
    }

    private static void promise27whoWentAlreadyIsNotCounted() {
        YieldDoors x = Due.told(Due.GUESTS);
        x.steps(2);
        Due.is("precedence(0, 0)", x.precedence(0, 0), 2);
    }

    // ---- promise 28

    private static void promise28withoutAMinistryItIsStateAheadOfBad() {
        YieldDoors x = new YieldDoors();
        Due.is("both(0)", x.both(0), Due.STATE);
        Due.is("both(-1)", x.both(-1), Due.STATE);
        Due.is("both(2)", x.both(2), Due.STATE);
    }

    private static void promise28whatIsNotAskedIsBad() {
        YieldDoors x = Due.told(TWO_DOORS);
        Due.is("both(-1)", x.both(-1), Due.BAD);
        Due.is("both(2)", x.both(2), Due.BAD);
    }

    private static void pairs(YieldDoors x, int many, int first) {
        Due.is("both(0)", x.both(0), many);
        Due.is("both(1)", x.both(1), first);
    }

    private static void promise28noPair() {
        pairs(Due.told(Due.GUESTS), 0, Due.NONE);
    }

    private static void promise28oneAloneIsNoPair() {
        pairs(Due.told("m1,1;j0,0,0;"), 0, Due.NONE);
    }

    private static void promise28allPairs() {
        pairs(Due.told(Due.JUNIORS), 21, 1);
    }

    private static void promise28theLastPair() {
        pairs(Due.told("m1,1;g0,0,0;g0,0,0;g0,0,0;g0,0,0;g0,0,0;s3,0,0;s3,0,0;"), 1, 56);
    }

    private static void promise28theFirstIsByTheLesserThenByTheGreater() {
        pairs(Due.told("m1,1;s3,0,0;s4,0,0;s4,0,0;s3,0,0;"), 2, 3);
        pairs(Due.told("m1,1;g0,0,0;s4,0,0;g0,0,0;s4,0,0;s4,0,0;"), 3, 13);
    }

    private static void promise28ranksAlike() {
        pairs(Due.told("m1,1;s3,0,0;s3,0,0;"), 1, 1);
        pairs(Due.told("m1,1;s3,0,0;c3,0,0;"), 0, Due.NONE);
        pairs(Due.told("m1,1;s3,0,0;s4,0,0;"), 0, Due.NONE);
    }

    private static void promise28atTwoDoorsToo() {
        pairs(Due.told("m2,1;j0,0,0;j0,0,1;"), 1, 1);
    }

    private static void promise28throughToo() {
        YieldDoors x = Due.told("m2,1;j0,0,0;j0,0,1;");
        x.steps(1);
        Due.is("THROUGH", x.count(4), 3);
        pairs(x, 1, 1);
    }

    private static void promise28ifOneIsNobodyToo() {
        YieldDoors x = Due.told("m1,9;j0,0,0;j0,0,0;");
        x.bow(0);
        pairs(x, 1, 1);
    }

    // ---- nothing changes

    private static void promise16to19changeNothing() {
        YieldDoors x = Due.busy();
        for (int n = -1; n <= 61; n++) {
            x.ahead(0, n);
            x.waitAhead(0, n);
        }
        for (int one = -1; one <= 6; one++) {
            x.goes(one);
        }
        x.stuck();
        Due.alike(x, Due.busy());
    }

    private static void promise20to24changeNothing() {
        YieldDoors x = Due.busy();
        for (int door = -1; door <= 3; door++) {
            for (int what = -1; what <= 2; what++) {
                x.ring(door, what);
                x.bows(door, what);
                x.third(door, what);
            }
            x.raise(door);
        }
        for (int one = -1; one <= 6; one++) {
            x.bestDoor(one, 0);
            x.bestDoor(one, 1);
            x.bestDoor(one, 2);
        }
        Due.alike(x, Due.busy());
    }

    private static void promise27and28changeNothing() {
        YieldDoors x = Due.busy();
        for (int k = -1; k <= 7; k++) {
            x.precedence(0, k);
            x.precedence(3, k);
        }
        x.both(0);
        x.both(1);
        x.both(2);
        Due.alike(x, Due.busy());
    }
}
