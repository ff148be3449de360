/** The edges of promises 25, 26 and 29 to 32: what fits that was SEEN, who FAINTS, DAYS by draws, IMAGES. */
public final class ChancesEdgeTest {
    private static final String CLERKS = "m2,1;c3,1,0;c5,2,0;g1,1,1;";

    public static void main(String[] args) throws IllegalAccessException {
        Edges.run(ChancesEdgeTest.class);
    }

    /** With a ROW 0 of ints that tells who goes. */
    private static YieldDoors seen(String text, int... going) {
        YieldDoors x = Due.told(text);
        x.row(0, 2, going.length);
        for (int i = 0; i < going.length; i++) {
            x.set(0, i, going[i]);
        }
        return x;
    }

    // ---- promise 25

    private static void promise25withoutAMinistryItIsBad() {
        YieldDoors x = new YieldDoors();
        x.row(0, 0, 1);
        Due.is("ranks(0, 0, 0, 0, 1)", x.ranks(0, 0, 0, 0, 1), Due.BAD);
    }

    private static void promise25aDoorThatIsNoneIsBad() {
        YieldDoors x = seen(CLERKS, 1);
        Due.is("ranks(-1, ..)", x.ranks(-1, 0, 0, 0, 1), Due.BAD);
        Due.is("ranks(2, ..)", x.ranks(2, 0, 0, 0, 1), Due.BAD);
    }

    private static void promise25aPersonWhoIsNoneIsBad() {
        YieldDoors x = seen(CLERKS, 1);
        Due.is("ranks(0, -1, ..)", x.ranks(0, -1, 0, 0, 1), Due.BAD);
        Due.is("ranks(0, 3, ..)", x.ranks(0, 3, 0, 0, 1), Due.BAD);
    }

    private static void promise25aRowThatIsNoneIsBad() {
        YieldDoors x = seen(CLERKS, 1);
        Due.is("ROW -1", x.ranks(0, 0, -1, 0, 1), Due.BAD);
        Due.is("ROW 8", x.ranks(0, 0, 8, 0, 1), Due.BAD);
    }

    private static void promise25fewerThan1StepIsBad() {
        YieldDoors x = seen(CLERKS, 1);
        Due.is("n 0", x.ranks(0, 0, 0, 0, 0), Due.BAD);
        Due.is("n -1", x.ranks(0, 0, 0, 0, -1), Due.BAD);
        Due.is("n least", x.ranks(0, 0, 0, 0, Due.LEAST), Due.BAD);
    }

    private static void promise25moreThan12StepsAreBad() {
        YieldDoors x = Due.told(CLERKS);
        x.row(0, 0, 40);
        Due.is("n 13", x.ranks(0, 0, 0, 0, 13), Due.BAD);
        Due.is("n most", x.ranks(0, 0, 0, 0, Due.MOST), Due.BAD);
    }

    private static void promise25aMissingRowIsNull() {
        YieldDoors x = Due.told(CLERKS);
        Due.is("ROW 0", x.ranks(0, 0, 0, 0, 1), Due.NULL);
        Due.is("ROW 7", x.ranks(0, 0, 7, 0, 12), Due.NULL);
    }

    private static void promise25badIsAheadOfNull() {
        YieldDoors x = Due.told(CLERKS);
        Due.is("DOOR", x.ranks(2, 0, 0, 0, 1), Due.BAD);
        Due.is("n", x.ranks(0, 0, 0, 0, 13), Due.BAD);
        Due.is("status()", x.status(), 0);
    }

    private static void promise25nullIsAheadOfPlace() {
        Due.is("i -1", Due.told(CLERKS).ranks(0, 0, 0, -1, 1), Due.NULL);
    }

    private static void promise25iBelow0IsPlace() {
        YieldDoors x = seen(CLERKS, 1, 0);
        Due.is("i -1", x.ranks(0, 0, 0, -1, 1), Due.PLACE);
        Due.is("i least", x.ranks(0, 0, 0, Due.LEAST, 1), Due.PLACE);
    }

    private static void promise25beyondTheEndIsPlace() {
        YieldDoors x = seen(CLERKS, 1, 0);
        Due.is("to the end", x.ranks(0, 0, 0, 0, 2), 31);
        Due.is("one beyond", x.ranks(0, 0, 0, 0, 3), Due.PLACE);
        Due.is("from the end", x.ranks(0, 0, 0, 2, 1), Due.PLACE);
        Due.is("i most", x.ranks(0, 0, 0, Due.MOST, 12), Due.PLACE);
    }

    private static void promise25anEmptyRowIsPlace() {
        Due.is("ranks", seen(CLERKS).ranks(0, 0, 0, 0, 1), Due.PLACE);
    }

    private static void promise25oneStepAndTwelve() {
        YieldDoors x = seen(CLERKS, 1, 0, -1, -1, -1, -1, -1, -1, -1, -1, -1, -1);
        Due.is("one", x.ranks(0, 0, 0, 0, 1), 31);
        Due.is("twelve", x.ranks(0, 0, 0, 0, 12), 31);
        x.set(0, 11, 2);
        Due.is("twelve, but the last", x.ranks(0, 0, 0, 0, 12), 0);
        Due.is("eleven", x.ranks(0, 0, 0, 0, 11), 31);
    }

    private static void promise25nobodyIsMinus1() {
        YieldDoors x = seen("m2,1;g0,0,0;", -1, Due.NONE, 0);
        Due.is("-1", x.ranks(1, 0, 0, 0, 1), 1023);
        Due.is("NONE", x.ranks(1, 0, 0, 1, 1), 0);
        Due.is("0", x.ranks(1, 0, 0, 2, 1), 0);
    }

    private static void promise25whoIsNotThereIsNeverSeen() {
        YieldDoors x = seen(CLERKS, 2, 3, 7, Due.MOST, Due.LEAST);
        for (int i = 0; i < 5; i++) {
            Due.is("ITEM " + i, x.ranks(0, 0, 0, i, 1), 0);
        }
    }

    private static void promise25ranks0And9() {
        // 0 gives way to greater RANKS: only by RANK 9 does nobody have a greater one than he
        YieldDoors x = seen("m1,1;s0,0,0;g8,0,0;", 0);
        Due.is("by RANK 9 alone", x.ranks(0, 0, 0, 0, 1), 512);
        x.set(0, 0, 1);
        Due.is("by all but 9", x.ranks(0, 0, 0, 0, 1), 511);
        YieldDoors y = seen("m1,1;c0,0,0;g1,0,0;", 1);
        Due.is("by RANK 0 alone", y.ranks(0, 0, 0, 0, 1), 1);
    }

    private static void promise25ofOneWhoIsGivenWayTo() {
        YieldDoors x = seen("m1,1;c4,0,0;g0,0,0;", 0, 1);
        Due.is("to 4", x.ranks(0, 1, 0, 0, 2), 31);
    }

    private static void promise25ofOneElsewhereOrThroughAllOrNone() {
        YieldDoors x = seen(CLERKS, 1, 0);
        Due.is("all", x.ranks(0, 2, 0, 0, 2), 1023);
        Due.is("none", x.ranks(0, 2, 0, 1, 1), 0);
        x.steps(1);
        Due.is("THROUGH", x.ranks(0, 1, 0, 1, 1), 1023);
    }

    private static void promise25fromIOn() {
        YieldDoors x = seen(CLERKS, -1, 0, 1, 0);
        Due.is("i 2", x.ranks(0, 0, 0, 2, 2), 31);
        Due.is("i 1", x.ranks(0, 0, 0, 1, 1), 1023 - 31);
    }

    private static void promise25byRowsOfEachLane() {
        YieldDoors x = Due.told(CLERKS);
        for (int lane = 0; lane <= 2; lane++) {
            x.row(lane, lane, 3);
            x.set(lane, 0, 1);
            x.set(lane, 2, -1);
            Due.is("LANE " + lane, x.ranks(0, 0, lane, 0, 3), 31);
        }
    }

    private static void promise25asHeIsNobody() {
        YieldDoors x = seen("m1,1;c0,0,0;c5,0,0;", 0);
        Due.is("ahead of it", x.ranks(0, 0, 0, 0, 1), 992);
        x.bow(0);
        Due.is("behind it", x.ranks(0, 0, 0, 0, 1), 1023);
    }

    // ---- promise 26

    private static void promise26withoutAMinistryItIsBad() {
        YieldDoors x = new YieldDoors();
        x.row(0, 0, 1);
        Due.is("who(0, 0, 0, 0, 1)", x.who(0, 0, 0, 0, 1), Due.BAD);
    }

    private static void promise26aDoorThatIsNoneIsBad() {
        YieldDoors x = seen(CLERKS, 1);
        Due.is("who(-1, ..)", x.who(-1, 0, 0, 0, 1), Due.BAD);
        Due.is("who(2, ..)", x.who(2, 0, 0, 0, 1), Due.BAD);
    }

    private static void promise26aPersonWhoIsNoneIsBad() {
        YieldDoors x = seen(CLERKS, 1);
        Due.is("who(0, -1, ..)", x.who(0, -1, 0, 0, 1), Due.BAD);
        Due.is("who(0, 3, ..)", x.who(0, 3, 0, 0, 1), Due.BAD);
    }

    private static void promise26aRowThatIsNoneIsBad() {
        YieldDoors x = seen(CLERKS, 1);
        Due.is("ROW -1", x.who(0, 0, -1, 0, 1), Due.BAD);
        Due.is("ROW 8", x.who(0, 0, 8, 0, 1), Due.BAD);
    }

    private static void promise26stepsBelow1OrAbove12AreBad() {
        YieldDoors x = Due.told(CLERKS);
        x.row(0, 0, 40);
        Due.is("n 0", x.who(0, 0, 0, 0, 0), Due.BAD);
        Due.is("n -1", x.who(0, 0, 0, 0, -1), Due.BAD);
        Due.is("n 13", x.who(0, 0, 0, 0, 13), Due.BAD);
    }

    private static void promise26aMissingRowIsNullAheadOfPlace() {
        YieldDoors x = Due.told(CLERKS);
        Due.is("NULL", x.who(0, 0, 0, 0, 1), Due.NULL);
        Due.is("i -1", x.who(0, 0, 0, -1, 1), Due.NULL);
    }

    private static void promise26badIsAheadOfNull() {
        YieldDoors x = Due.told(CLERKS);
        Due.is("n", x.who(0, 0, 0, 0, 0), Due.BAD);
        Due.is("PERSON", x.who(0, 3, 0, 0, 1), Due.BAD);
    }

    private static void promise26aPlaceThatIsNone() {
        YieldDoors x = seen(CLERKS, 1, 0);
        Due.is("to the end", x.who(0, 0, 0, 0, 2), 46);
        Due.is("one beyond", x.who(0, 0, 0, 1, 2), Due.PLACE);
        Due.is("i -1", x.who(0, 0, 0, -1, 1), Due.PLACE);
        Due.is("i most", x.who(0, 0, 0, Due.MOST, 12), Due.PLACE);
    }

    private static void promise26oneStepAndTwelve() {
        YieldDoors x = seen(CLERKS, 1, 0, -1, -1, -1, -1, -1, -1, -1, -1, -1, -1);
        Due.is("one", x.who(0, 0, 0, 0, 1), 46);
        Due.is("twelve", x.who(0, 0, 0, 0, 12), 46);
        x.set(0, 11, 2);
        Due.is("twelve, but the last", x.who(0, 0, 0, 0, 12), 0);
    }

    private static void promise26eachKindAlone() {
        // as he is alone, none can be told from another
        Due.is("all five, and no bit 0", seen("m1,1;c5,5,0;", 0).who(0, 0, 0, 0, 1), 62);
        // 0 is to go, whom a greater RANK and a greater HONOUR are with
        Due.is("a guest", seen("m1,1;c5,5,0;g6,6,0;", 0).who(0, 0, 0, 0, 1), 16);
        // a greater HONOUR alone
        Due.is("not one who bows", seen("m1,1;g5,5,0;g4,6,0;", 0).who(0, 0, 0, 0, 1), 22);
        // a greater RANK alone
        Due.is("one who bows, too", seen("m1,1;c5,5,0;g6,5,0;", 0).who(0, 0, 0, 0, 1), 48);
        // alike
        Due.is("no secretary", seen("m1,1;s5,5,0;g5,5,0;", 0).who(0, 0, 0, 0, 1), 50);
        // none is greater, but he gives way to any
        Due.is("a junior", seen("m1,1;g9,9,0;g0,0,0;", 1).who(0, 0, 0, 0, 1), 8);
    }

    private static void promise26asAllAreNow() {
        YieldDoors x = seen("m1,1;c5,5,0;g4,4,0;", 0);
        Due.is("none is greater", x.who(0, 0, 0, 0, 1), 54);
        x.revise(1, 0, 6);
        Due.is("a RANK is greater", x.who(0, 0, 0, 0, 1), 48);
    }

    private static void promise26noneFits() {
        Due.is("who", seen(CLERKS, 2).who(0, 0, 0, 0, 1), 0);
    }

    private static void promise26hisKindStays() {
        YieldDoors x = seen(CLERKS, 1);
        x.who(0, 0, 0, 0, 1);
        Due.is("kind(0)", x.kind(0), 1);
    }

    private static void promise25and26changeNothingButStatus() {
        YieldDoors x = Due.busy();
        for (int one = -1; one <= 6; one++) {
            x.ranks(0, one, 0, 0, 3);
            x.who(1, one, 5, 0, 12);
        }
        x.ranks(0, 0, 1, 0, 1);
        x.who(0, 0, 0, 3, 1);
        Due.is("status()", x.status(), 2);
        Due.alikeButStatus(x, Due.busy());
    }

    // ---- promise 29

    private static void promise29withoutAMinistryItIsStateAheadOfBad() {
        YieldDoors x = new YieldDoors();
        Due.is("faint(0, 5, 0)", x.faint(0, 5, 0), Due.STATE);
        Due.is("faint(-1, 11, 2)", x.faint(-1, 11, 2), Due.STATE);
    }

    private static void promise29aDoorThatIsNoneIsBad() {
        YieldDoors x = Due.told(CLERKS);
        Due.is("faint(-1, 5, 0)", x.faint(-1, 5, 0), Due.BAD);
        Due.is("faint(2, 5, 0)", x.faint(2, 5, 0), Due.BAD);
    }

    private static void promise29pBelow0OrAbove10IsBad() {
        YieldDoors x = Due.told(CLERKS);
        Due.is("p -1", x.faint(0, -1, 0), Due.BAD);
        Due.is("p 11", x.faint(0, 11, 0), Due.BAD);
        Due.is("p least", x.faint(0, Due.LEAST, 1), Due.BAD);
        Due.is("p most", x.faint(0, Due.MOST, 1), Due.BAD);
    }

    private static void promise29whatIsNotAskedIsBad() {
        YieldDoors x = Due.told(CLERKS);
        Due.is("what -1", x.faint(0, 5, -1), Due.BAD);
        Due.is("what 2", x.faint(0, 5, 2), Due.BAD);
    }

    private static void fraction(YieldDoors x, int p, long above, long below) {
        Due.is("faint(0, " + p + ", 0)", x.faint(0, p, 0), above);
        Due.is("faint(0, " + p + ", 1)", x.faint(0, p, 1), below);
    }

    private static void promise29by0NobodyIsCarriedOff() {
        fraction(Due.told(Due.GUESTS), 0, 1, 1);
        fraction(Due.told(Due.JUNIORS), 0, 0, 1);
    }

    private static void promise29by10AllAreCarriedOff() {
        fraction(Due.told(Due.GUESTS), 10, 0, 1);
        fraction(Due.told(Due.JUNIORS), 10, 0, 1);
    }

    private static void promise29atAnEmptyDoorItIs0By1() {
        YieldDoors x = Due.told("m1,1;g0,0,0;");
        x.steps(1);
        fraction(x, 0, 0, 1);
        fraction(x, 5, 0, 1);
    }

    private static void promise29inLowestTerms() {
        YieldDoors x = Due.told("m1,1;g0,0,0;");
        long[] above = {1, 9, 4, 7, 3, 1, 2, 3, 1, 1, 0};
        long[] below = {1, 10, 5, 10, 5, 2, 5, 10, 5, 10, 1};
        for (int p = 0; p <= 10; p++) {
            fraction(x, p, above[p], below[p]);
        }
    }

    private static void promise29ofSeven() {
        // but for all carried off: 9 of 10 seven times
        fraction(Due.told(Due.GUESTS), 9, 10000000 - 4782969, 10000000);
        fraction(Due.told(Due.GUESTS), 1, 9999999, 10000000);
        // one alone stays: 7 times 5 by 128 ways
        fraction(Due.told(Due.JUNIORS), 5, 7, 128);
        // 7 times 1 by 9 to the 6th, of 10 to the 7th: 7 * 531441
        fraction(Due.told(Due.JUNIORS), 9, 3720087, 10000000);
        fraction(Due.told(Due.JUNIORS), 1, 63, 10000000);
    }

    private static void promise29whoIsNobodyIsCarriedOffToo() {
        YieldDoors x = Due.told("m1,1;j0,0,0;j0,0,0;");
        fraction(x, 1, 9, 50);
        x.bow(0);
        // 0 stays, or 1 alone: none but both carried off
        fraction(x, 1, 99, 100);
    }

    private static void promise29atThatDoorAlone() {
        fraction(Due.told("m2,1;g0,0,0;j0,0,1;j0,0,1;"), 4, 3, 5);
    }

    // ---- promise 30

    private static void promise30withoutAMinistryItIsStateAheadOfBad() {
        YieldDoors x = new YieldDoors();
        Due.is("drawn(1, 1, 0)", x.drawn(1, 1, 0), Due.STATE);
        Due.is("drawn(61, 0, 2)", x.drawn(61, 0, 2), Due.STATE);
    }

    private static void promise30stepsBelow0OrAbove60AreBad() {
        YieldDoors x = Due.told(CLERKS);
        Due.is("n -1", x.drawn(-1, 1, 0), Due.BAD);
        Due.is("n 61", x.drawn(61, 1, 0), Due.BAD);
        Due.is("n most", x.drawn(Due.MOST, 1, 0), Due.BAD);
    }

    private static void promise30aSeedBelow1OrAbove999999IsBad() {
        YieldDoors x = Due.told(CLERKS);
        Due.is("seed 0", x.drawn(1, 0, 0), Due.BAD);
        Due.is("seed -1", x.drawn(1, -1, 0), Due.BAD);
        Due.is("seed 1000000", x.drawn(1, 1000000, 0), Due.BAD);
        Due.is("seed most", x.drawn(1, Due.MOST, 0), Due.BAD);
    }

    private static void promise30whatIsNotAskedIsBad() {
        YieldDoors x = Due.told(CLERKS);
        Due.is("what -1", x.drawn(1, 1, -1), Due.BAD);
        Due.is("what 2", x.drawn(1, 1, 2), Due.BAD);
    }

    private static void days(YieldDoors x, int n, int seed, int went, int waiting) {
        Due.is("drawn(" + n + ", " + seed + ", 0)", x.drawn(n, seed, 0), went);
        Due.is("drawn(" + n + ", " + seed + ", 1)", x.drawn(n, seed, 1), waiting);
    }

    private static void promise30of0DaysItIsAsNow() {
        YieldDoors x = Due.told(CLERKS);
        days(x, 0, 1, 0, 3);
        x.steps(1);
        days(x, 0, 999999, 0, 1);
    }

    private static void promise30of60Days() {
        // he goes in each, as he comes ahead of each
        days(Due.told("m1,1;g0,0,0;"), 60, 1, 60, 0);
        days(Due.told("m1,1;g0,0,0;"), 60, 999999, 60, 0);
    }

    private static void promise30whoWaitsBowsAheadOfTheStep() {
        // 16807 is odd: 1 BOWS, by a YARD of 1
        days(Due.told("m1,1;j0,0,0;j0,0,0;"), 1, 1, 1, 1);
        // 33614 is 2 by 3: 2 BOWS
        days(Due.told("m1,1;j0,0,0;j0,0,0;j0,0,0;"), 1, 2, 1, 2);
    }

    private static void promise30whoIsThroughComesToTheDoorThatIsTheRest() {
        YieldDoors x = Due.told("m2,1;g0,0,0;j0,0,1;j0,0,1;");
        x.steps(1);
        // 16807 is 1 by 3: 1 BOWS and goes; 282475249 is 1 by 3 and 1 by 2: 1 comes back to DOOR 1, where he and
        // 2 are stuck
        days(x, 1, 1, 1, 1);
        days(x, 2, 1, 1, 2);
        YieldDoors y = Due.told("m2,1;g0,0,1;j0,0,1;");
        y.steps(2);
        // both are THROUGH; 16807 is 1 by 2, and 1 by 2: 1 comes to DOOR 1 and goes
        days(y, 1, 1, 1, 0);
    }

    private static void promise30theSeedIsNotDrawnItself() {
        // 16807 is 2 by 5: a guest BOWS, who goes all the same; by 1 itself 1 would BOW, and go, too
        days(Due.told("m2,1;j0,0,0;j0,0,0;g0,0,1;g0,0,1;g0,0,1;"), 1, 1, 1, 4);
    }

    private static void promise30beyondAnIntItIsNotWrapped() {
        // X is 16807, 282475249, 1622650073, 984943658, 1144108930: by 3 1, 1, 2, 2, 1
        days(Due.told("m1,1;j0,0,0;j0,0,0;j0,0,0;"), 1, 1, 1, 2);
        // 1 comes back, and all three WAIT
        days(Due.told("m1,1;j0,0,0;j0,0,0;j0,0,0;"), 2, 1, 1, 3);
        // 2 BOWS and goes, 2 comes back, 1 BOWS and goes
        days(Due.told("m1,1;j0,0,0;j0,0,0;j0,0,0;"), 3, 1, 2, 2);
        days(Due.told("m1,1;j0,0,0;j0,0,0;j0,0,0;"), 4, 1, 2, 3);
        days(Due.told("m1,1;j0,0,0;j0,0,0;j0,0,0;"), 5, 1, 3, 2);
    }

    private static void promise30theRestIsBy2147483647() {
        // by 6 these are 1, 1, 5, 2, 4, 2: 1 goes, comes back; 5, 2, 4 go; 2 comes back
        YieldDoors x = Due.told("m1,1;j0,0,0;j0,0,0;j0,0,0;j0,0,0;j0,0,0;j0,0,0;");
        days(x, 4, 1, 3, 4);
        days(x, 6, 1, 4, 4);
    }

    private static void promise30somebodyWentOnceForEachDoor() {
        days(Due.told("m4,1;g0,0,0;g0,0,1;g0,0,2;g0,0,3;"), 1, 1, 4, 0);
    }

    private static void promise30beyondStep999ItIsForetoldToo() {
        YieldDoors x = Due.told("m1,1;g0,0,0;");
        for (int i = 0; i < 41; i++) {
            x.steps(24);
        }
        x.steps(15);
        days(x, 60, 1, 60, 0);
    }

    private static void promise29and30changeNothing() {
        YieldDoors x = Due.busy();
        for (int p = -1; p <= 11; p++) {
            x.faint(0, p, 0);
            x.faint(1, p, 1);
        }
        for (int n = -1; n <= 61; n++) {
            x.drawn(n, 7 * n, 0);
        }
        Due.alike(x, Due.busy());
    }

    // ---- promise 31

    private static void promise31anImageThatIsNoneIsBad() {
        YieldDoors x = Due.told(CLERKS);
        Due.is("image(-1)", x.image(-1), Due.BAD);
        Due.is("image(2)", x.image(2), Due.BAD);
        Due.is("image(most)", x.image(Due.MOST), Due.BAD);
        Due.is("image(least)", x.image(Due.LEAST), Due.BAD);
    }

    private static void promise31withoutAMinistryItIsState() {
        YieldDoors x = new YieldDoors();
        Due.is("image(0)", x.image(0), Due.STATE);
        Due.is("image(1)", x.image(1), Due.STATE);
        Due.is("none is kept", x.restore(0), Due.STATE);
    }

    private static void promise31badIsAheadOfState() {
        Due.is("image(2)", new YieldDoors().image(2), Due.BAD);
    }

    private static void promise31bothCanBeKept() {
        YieldDoors x = Due.told("m2,1;g3,0,0;");
        Due.is("image(0)", x.image(0), 1);
        x.revise(0, 0, 7);
        Due.is("image(1)", x.image(1), 1);
        x.restore(0);
        Due.is("of 0", x.person(0, 0), 3);
        x.restore(1);
        Due.is("of 1", x.person(0, 0), 7);
    }

    private static void promise31theLatestIsKept() {
        YieldDoors x = Due.told("m2,1;g3,0,0;");
        x.image(0);
        x.revise(0, 0, 7);
        x.image(0);
        x.revise(0, 0, 8);
        x.restore(0);
        Due.is("RANK", x.person(0, 0), 7);
    }

    private static void promise31itIsNoActAndUndoesNone() {
        YieldDoors x = Due.told("m2,1;g3,0,0;");
        x.bow(0);
        x.image(0);
        Due.is("count(6)", x.count(6), 1);
    }

    // ---- promise 32

    private static void promise32anImageThatIsNoneIsBad() {
        YieldDoors x = Due.told(CLERKS);
        Due.is("restore(-1)", x.restore(-1), Due.BAD);
        Due.is("restore(2)", x.restore(2), Due.BAD);
        Due.is("restore(most)", x.restore(Due.MOST), Due.BAD);
    }

    private static void promise32whatWasNotKeptIsState() {
        YieldDoors x = Due.told(CLERKS);
        Due.is("restore(0)", x.restore(0), Due.STATE);
        x.image(0);
        Due.is("restore(1)", x.restore(1), Due.STATE);
        Due.is("restore(0), kept", x.restore(0), 1);
    }

    private static void promise32badIsAheadOfState() {
        Due.is("restore(2)", new YieldDoors().restore(2), Due.BAD);
    }

    private static void promise32noActCanBeUndoneThen() {
        YieldDoors x = Due.told(CLERKS);
        x.bow(0);
        x.image(0);
        x.bow(1);
        x.restore(0);
        Due.is("count(6)", x.count(6), 0);
        Due.is("undo()", x.undo(), Due.STATE);
        x.bow(1);
        Due.is("an ACT behind it", x.undo(), 0);
    }

    private static void promise32refusedTheActsStay() {
        YieldDoors x = Due.told(CLERKS);
        x.bow(0);
        x.restore(0);
        x.restore(2);
        Due.is("undo()", x.undo(), 0);
    }

    private static void promise32allIsAsItWasKept() {
        YieldDoors x = Due.told("m3,4;c3,4,0;b5,6,1;g1,1,2;");
        x.steps(1);
        x.come(0, 2);
        x.bow(0);
        x.image(1);
        Due.tell(x, "m1,9;j0,0,0;j0,0,0;j0,0,0;j0,0,0;");
        x.bow(2);
        x.steps(2);
        Due.is("restore(1)", x.restore(1), 1);
        Due.is("DOORS", x.count(1), 3);
        Due.is("PEOPLE", x.count(2), 3);
        Due.is("STEP", x.count(3), 1);
        Due.is("THROUGH", x.count(4), 6);
        Due.is("NOBODY", x.count(5), 1);
        Due.is("NOBODY for", x.person(0, 3), 4);
        Due.is("DOOR", x.person(0, 2), 2);
        Due.is("RANK", x.person(1, 0), 5);
        Due.is("HONOUR", x.person(1, 1), 6);
        Due.is("KIND", x.kind(1), 5);
        x.come(1, 1);
        x.bow(1);
        Due.is("the YARD", x.person(1, 3), 4);
    }

    private static void promise32theImageStays() {
        YieldDoors x = Due.told("m2,1;g3,0,0;");
        x.image(0);
        x.restore(0);
        x.revise(0, 0, 9);
        x.come(0, 1);
        Due.is("restore(0) again", x.restore(0), 1);
        Due.is("RANK", x.person(0, 0), 3);
        Due.is("DOOR", x.person(0, 2), 0);
    }

    private static void promise32aStepOf999CanBeLeft() {
        YieldDoors x = Due.told("m1,1;g3,0,0;");
        x.image(0);
        for (int i = 0; i < 41; i++) {
            x.steps(24);
        }
        x.steps(15);
        x.restore(0);
        Due.is("steps(1)", x.steps(1), 1);
        Due.is("STEP", x.count(3), 1);
    }

    private static void promise31and32refusedTheyChangeNothing() {
        YieldDoors x = Due.busy();
        x.image(2);
        x.image(-1);
        x.restore(0);
        x.restore(2);
        Due.alike(x, Due.busy());
    }
}
