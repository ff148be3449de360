/** Each promise by hand: ordinary inputs, the edges that the document names, wrong inputs. */
public final class PromiseTest {
    private static final String FULL_HOUSE = "m1,1;c0,0,0;c0,0,0;c0,0,0;c0,0,0;c0,0,0;c0,0,0;c0,0,0;";
    private static final String SECRETARIES = "m2,3;s5,1,0;s5,2,0;s5,3,0;g1,1,1;";

    public static void main(String[] args) {
        promise1newObject();
        promise2row();
        promise3set();
        promise4copy();
        promise5drop();
        promise6feed();
        promise7ministry();
        promise7faults();
        promise8fault();
        promise9undo();
        promise10steps();
        promise11come();
        promise12bow();
        promise13revise();
        promise14person();
        promise15door();
        promise16ahead();
        promise17waitAhead();
        promise18goes();
        promise19stuck();
        promise20ring();
        promise21bows();
        promise22raise();
        promise23third();
        promise24bestDoor();
        promise25ranks();
        promise26who();
        promise27precedence();
        promise28both();
        promise29faint();
        promise30drawn();
        promise31and32images();
        promise33kind();
        promise34as();
        promise35and36asks();
        promise37count();
        promise38status();
        Due.end();
    }

    private static void promise1newObject() {
        YieldDoors x = new YieldDoors();
        for (int what = 0; what <= 7; what++) {
            Due.is("new: count(" + what + ")", x.count(what), 0);
        }
        Due.is("new: fault()", x.fault(), 0);
        Due.is("new: status()", x.status(), 0);
        Due.is("new: stuck()", x.stuck(), Due.STATE);
        Due.is("new: undo()", x.undo(), Due.STATE);
        Due.is("new: trace(0)", x.trace(0), Due.NONE);
        Due.is("new: restore(1)", x.restore(1), Due.STATE);
        Due.is("new: kind(0)", x.kind(0), Due.BAD);
    }

    private static void promise2row() {
        YieldDoors x = new YieldDoors();
        Due.is("row(-1, 0, 1)", x.row(-1, 0, 1), Due.BAD);
        Due.is("row(8, 0, 1)", x.row(8, 0, 1), Due.BAD);
        Due.is("row(0, -1, 1)", x.row(0, -1, 1), Due.BAD);
        Due.is("row(0, 3, 1)", x.row(0, 3, 1), Due.BAD);
        Due.is("row(0, 3, -1)", x.row(0, 3, -1), Due.BAD);
        Due.is("row(0, 0, 41)", x.row(0, 0, 41), Due.BAD);
        Due.is("row(0, 0, -1)", x.row(0, 0, -1), Due.SIZE);
        Due.is("count(0)", x.count(0), 0);
        Due.is("row(7, 2, 40)", x.row(7, 2, 40), 40);
        Due.is("row(0, 0, 0)", x.row(0, 0, 0), 0);
        Due.is("count(0)", x.count(0), 2);
        Due.is("set(0, 0, 1)", x.set(0, 0, 1), Due.PLACE);
        x.set(7, 39, 5);
        Due.is("row(7, 2, -1)", x.row(7, 2, -1), Due.SIZE);
        x.row(1, 2, 1);
        x.copy(7, 39, 1, 0, 1);
        Due.is("kept by SIZE", itemOf(x, 1, 0), 5);
        x.row(7, 2, 40);
        Due.is("a new ROW's items", itemOf(x, 7, 39), 0);
        x.set(7, 0, 6);
        x.drop(7);
        x.row(7, 0, 1);
        Due.is("a ROW's items behind drop()", itemOf(x, 7, 0), 0);
    }

    /** No call reads an item out: which ROW of what is SEEN fits tells it, from -1 to 6. */
    private static int itemOf(YieldDoors x, int row, int i) {
        for (int one = 6; one >= 0; one--) {
            StringBuilder text = new StringBuilder("m1,1;");
            for (int other = 0; other < 7; other++) {
                text.append(other < one ? "j0,0,0;" : other == one ? "g0,0,0;" : "j0,0,0;");
            }
            Due.tell(x, text.toString());
            if (x.ranks(0, one, row, i, 1) == 1023) {
                return one;
            }
        }
        return -2;
    }

    private static void promise3set() {
        YieldDoors x = new YieldDoors();
        Due.is("set(-1, 0, 0)", x.set(-1, 0, 0), Due.BAD);
        Due.is("set(8, 0, 0)", x.set(8, 0, 0), Due.BAD);
        Due.is("set(0, 0, 0) missing", x.set(0, 0, 0), Due.NULL);
        Due.is("set(0, -1, 0) missing", x.set(0, -1, 0), Due.NULL);
        x.row(0, 0, 3);
        x.row(1, 1, 3);
        x.row(2, 2, 3);
        Due.is("set(0, -1, 0)", x.set(0, -1, 0), Due.PLACE);
        Due.is("set(0, 3, 0)", x.set(0, 3, 0), Due.PLACE);
        Due.is("set(0, 2, 128)", x.set(0, 2, 128), -128);
        Due.is("set(0, 2, 511)", x.set(0, 2, 511), -1);
        Due.is("set(1, 2, 32768)", x.set(1, 2, 32768), -32768);
        Due.is("set(1, 0, 65537)", x.set(1, 0, 65537), 1);
        Due.is("set(1, 0, 128)", x.set(1, 0, 128), 128);
        Due.is("set(2, 0, min)", x.set(2, 0, Integer.MIN_VALUE), Integer.MIN_VALUE);
        Due.is("set(2, 0, max)", x.set(2, 0, Integer.MAX_VALUE), Integer.MAX_VALUE);
    }

    private static void promise4copy() {
        YieldDoors x = new YieldDoors();
        Due.is("copy(8, 0, 0, 0, 0)", x.copy(8, 0, 0, 0, 0), Due.BAD);
        Due.is("copy(0, 0, -1, 0, 0)", x.copy(0, 0, -1, 0, 0), Due.BAD);
        x.row(0, 1, 5);
        x.row(1, 2, 5);
        x.row(2, 1, 3);
        Due.is("copy to missing", x.copy(0, 0, 3, 0, 1), Due.NULL);
        Due.is("copy from missing", x.copy(3, -1, 0, 0, 1), Due.NULL);
        Due.is("copy of two LANES", x.copy(0, -1, 1, 0, 99), Due.STORE);
        Due.is("copy i below 0", x.copy(0, -1, 2, 0, 1), Due.PLACE);
        Due.is("copy j below 0", x.copy(0, 0, 2, -1, 1), Due.PLACE);
        Due.is("copy n below 0", x.copy(0, 0, 2, 0, -1), Due.PLACE);
        Due.is("copy beyond a", x.copy(0, 3, 2, 0, 3), Due.PLACE);
        Due.is("copy beyond b", x.copy(0, 0, 2, 1, 3), Due.PLACE);
        Due.is("copy beyond an int", x.copy(0, 1, 2, 1, Integer.MAX_VALUE), Due.PLACE);
        Due.is("copy none at the ends", x.copy(0, 5, 2, 3, 0), 0);
        Due.is("copy none beyond an end", x.copy(0, 6, 2, 3, 0), Due.PLACE);
        for (int i = 0; i < 5; i++) {
            x.set(0, i, i);
        }
        Due.is("copy over itself, up", x.copy(0, 0, 0, 1, 4), 4);
        for (int i = 0; i < 5; i++) {
            Due.is("item " + i, itemOf(x, 0, i), Math.max(0, i - 1));
        }
        Due.is("copy over itself, down", x.copy(0, 2, 0, 0, 3), 3);
        int[] down = {1, 2, 3, 2, 3};
        for (int i = 0; i < 5; i++) {
            Due.is("item " + i, itemOf(x, 0, i), down[i]);
        }
        Due.is("copy to another", x.copy(0, 0, 2, 0, 3), 3);
        Due.is("item 2 there", itemOf(x, 2, 2), 3);
    }

    private static void promise5drop() {
        YieldDoors x = new YieldDoors();
        Due.is("drop(-1)", x.drop(-1), Due.BAD);
        Due.is("drop(8)", x.drop(8), Due.BAD);
        Due.is("drop(0) missing", x.drop(0), Due.NULL);
        x.row(0, 1, 17);
        x.row(1, 1, 0);
        Due.is("drop(0)", x.drop(0), 17);
        Due.is("drop(1)", x.drop(1), 0);
        Due.is("drop(0) again", x.drop(0), Due.NULL);
        Due.is("count(0)", x.count(0), 0);
    }

    private static void promise6feed() {
        YieldDoors x = new YieldDoors();
        Due.is("feed(-1)", x.feed(-1), Due.BAD);
        Due.is("feed(256)", x.feed(256), Due.BAD);
        for (int i = 1; i <= 100; i++) {
            Due.is("feed " + i, x.feed(i % 2 * 255), i);
        }
        Due.is("feed 101", x.feed(0), Due.FULL);
        Due.is("feed BAD when FULL", x.feed(256), Due.BAD);
        Due.is("count(7)", x.count(7), 100);
        Due.is("ministry()", x.ministry(), -1000100);
        Due.is("count(7) behind", x.count(7), 0);
    }

    private static void promise7ministry() {
        YieldDoors x = new YieldDoors();
        Due.is("a law alone", Due.tell(x, "m1,1;"), -1000105);
        Due.is("no MINISTRY yet", x.stuck(), Due.STATE);
        Due.is("leading zeros", Due.tell(x, "m02,09;c05,00,01;"), 1);
        Due.is("DOORS", x.count(1), 2);
        Due.is("RANK", x.person(0, 0), 5);
        Due.is("DOOR", x.person(0, 2), 1);
        Due.is("seven", Due.tell(x, FULL_HOUSE), 7);
        x.bow(3);
        x.steps(2);
        x.ask(0, 0);
        Due.is("a FAULT", Due.tell(x, "m4,1;c0,0,4;"), -1000110);
        Due.is("all stays: PEOPLE", x.count(2), 7);
        Due.is("all stays: DOORS", x.count(1), 1);
        Due.is("all stays: STEP", x.count(3), 2);
        Due.is("all stays: ACTS", x.count(6), 3);
        Due.is("all stays: THROUGH", x.count(4), 3);
        Due.is("tape is empty", x.count(7), 0);
        Due.is("another", Due.tell(x, "m3,2;g1,2,2;j3,4,0;"), 2);
        Due.is("anew: STEP", x.count(3), 0);
        Due.is("anew: ACTS", x.count(6), 0);
        Due.is("anew: THROUGH", x.count(4), 0);
        Due.is("anew: NOBODY", x.count(5), 0);
        Due.is("anew: undo()", x.undo(), Due.STATE);
        Due.is("anew: DOOR 2", x.door(2, 0), 1);
    }

    private static void promise7faults() {
        fault("", 0, 1);
        fault("x", 0, 1);
        fault("M1,1;c0,0,0;", 0, 1);
        fault(" m1,1;c0,0,0;", 0, 1);
        fault("m1 ,1;c0,0,0;", 2, 1);
        fault("m,1;c0,0,0;", 1, 1);
        fault("mm", 1, 1);
        fault("m0,1;c0,0,0;", 1, 2);
        fault("m5", 1, 2);
        fault("m99", 1, 2);
        fault("m100", 1, 1);
        fault("m0001,1;c0,0,0;", 1, 1);
        fault("m1", 2, 1);
        fault("m1;", 2, 1);
        fault("m1,0;c0,0,0;", 3, 2);
        fault("m1,10;c0,0,0;", 3, 2);
        fault("m4,9;", 5, 1);
        fault("m1,1;m", 5, 1);
        fault("m1,1;;", 5, 1);
        fault("m1,1;c", 6, 1);
        fault("m1,1;c10,0,0;", 6, 2);
        fault("m1,1;c0,10,0;", 8, 2);
        fault("m1,1;c0,0,1;", 10, 2);
        fault("m4,1;c0,0,4;", 10, 2);
        fault("m1,1;c0,0,000;", 10, 1);
        fault("m1,1;c0,0,0", 11, 1);
        fault("m1,1;c0,0,0,", 11, 1);
        fault("m1,1;c0,0,0;1", 12, 1);
        fault("m1,1;c0,0,0;\u0000", 12, 1);
        fault("m1,1;c0,0,0;\u00ff", 12, 1);
        fault(FULL_HOUSE + "c", 54, 3);
        fault(FULL_HOUSE + "b0,0,0;", 54, 3);
        fault(FULL_HOUSE + "x", 54, 1);
        fault(FULL_HOUSE + ";", 54, 1);
    }

    private static void fault(String text, int place, int number) {
        YieldDoors x = new YieldDoors();
        Due.is("ministry() of " + text, Due.tell(x, text), -1000100 - place);
        Due.is("fault() of " + text, x.fault(), number);
    }

    private static void promise8fault() {
        YieldDoors x = new YieldDoors();
        Due.is("fault() at first", x.fault(), 0);
        Due.tell(x, "m1,1;g0,0,0;");
        Due.is("fault() without one", x.fault(), 0);
        Due.tell(x, "m9");
        Due.is("fault() of a number", x.fault(), 2);
        Due.tell(x, "m1,1;g0,0,0;");
        Due.is("fault() is the latest", x.fault(), 2);
        Due.tell(x, "");
        Due.is("fault() of the end", x.fault(), 1);
    }

    private static void promise9undo() {
        YieldDoors x = Due.told("m2,3;g1,2,0;g3,4,0;c5,6,1;");
        x.steps(2);
        x.come(0, 1);
        x.bow(0);
        x.revise(0, 0, 9);
        x.revise(0, 1, 8);
        Due.is("count(6)", x.count(6), 6);
        Due.is("undo HONOUR", x.undo(), 5);
        Due.is("HONOUR", x.person(0, 1), 2);
        Due.is("RANK", x.person(0, 0), 9);
        Due.is("undo RANK", x.undo(), 4);
        Due.is("RANK", x.person(0, 0), 1);
        Due.is("NOBODY", x.person(0, 3), 3);
        Due.is("undo bow", x.undo(), 3);
        Due.is("NOBODY", x.person(0, 3), 0);
        Due.is("undo come", x.undo(), 2);
        Due.is("THROUGH", x.person(0, 2), Due.NONE);
        Due.is("undo a STEP", x.undo(), 1);
        Due.is("STEP", x.count(3), 1);
        Due.is("THROUGH", x.count(4), 5);
        Due.is("undo a STEP", x.undo(), 0);
        Due.is("STEP", x.count(3), 0);
        Due.is("THROUGH", x.count(4), 0);
        Due.is("undo none", x.undo(), Due.STATE);
        x.revise(0, 0, 0);
        x.steps(24);
        Due.is("24 at most", x.count(6), 24);
        for (int i = 23; i >= 0; i--) {
            Due.is("undo", x.undo(), i);
        }
        Due.is("the oldest is forgotten", x.undo(), Due.STATE);
        Due.is("its RANK stays", x.person(0, 0), 0);
        Due.is("STEP", x.count(3), 0);
    }

    private static void promise10steps() {
        YieldDoors x = new YieldDoors();
        Due.is("steps(0) of none", x.steps(0), Due.STATE);
        Due.tell(x, "m2,2;c1,0,0;c2,0,0;j3,3,1;g4,4,1;");
        Due.is("steps(0)", x.steps(0), Due.BAD);
        Due.is("steps(25)", x.steps(25), Due.BAD);
        Due.is("steps(1)", x.steps(1), 2);
        Due.is("THROUGH", x.count(4), 10);
        Due.is("steps(3)", x.steps(3), 2);
        Due.is("ACTS", x.count(6), 4);
        Due.is("STEP", x.count(3), 4);
        for (int i = 0; i < 41; i++) {
            x.steps(24);
        }
        Due.is("STEP", x.count(3), 988);
        Due.is("above 999", x.steps(12), Due.FULL);
        Due.is("above 999, BAD", x.steps(25), Due.BAD);
        Due.is("to 999", x.steps(11), 0);
        Due.is("STEP", x.count(3), 999);
        Due.is("beyond 999", x.steps(1), Due.FULL);
        Due.is("foretold beyond", x.ahead(0, 60), 1);
        x.undo();
        Due.is("STEP behind undo", x.count(3), 998);
        YieldDoors y = Due.told("m1,2;s1,0,0;s1,0,0;s1,0,0;s1,0,0;");
        y.bow(3);
        y.bow(0);
        Due.is("NOBODY goes first", y.steps(1), 1);
        Due.is("the first of them", y.count(4), 1);
        Due.is("who goes is NOBODY no more", y.count(5), 8);
        Due.is("a STEP less", y.person(3, 3), 1);
        Due.is("then the other", y.steps(1), 1);
        Due.is("the rest are stuck", y.steps(5), 0);
        Due.is("THROUGH", y.count(4), 9);
    }

    private static void promise11come() {
        YieldDoors x = Due.told("m3,4;g1,1,0;j1,1,1;");
        Due.is("come(2, 0)", x.come(2, 0), Due.BAD);
        Due.is("come(-1, 0)", x.come(-1, 0), Due.BAD);
        Due.is("come(0, 3)", x.come(0, 3), Due.BAD);
        Due.is("come(0, -1)", x.come(0, -1), Due.BAD);
        Due.is("come(0, 0)", x.come(0, 0), Due.STATE);
        Due.is("ACTS", x.count(6), 0);
        x.bow(0);
        Due.is("come(0, 1)", x.come(0, 1), 0);
        Due.is("NOBODY as he was", x.person(0, 3), 4);
        Due.is("DOOR 1", x.door(1, 0), 3);
        Due.is("ACTS", x.count(6), 2);
        x.steps(1);
        Due.is("come from THROUGH", x.come(0, 2), Due.NONE);
        Due.is("not NOBODY", x.person(0, 3), 0);
        Due.is("DOOR 2", x.door(2, 0), 1);
    }

    private static void promise12bow() {
        YieldDoors x = Due.told("m1,2;j1,1,0;j1,1,0;g1,1,0;");
        Due.is("bow(3)", x.bow(3), Due.BAD);
        Due.is("bow(-1)", x.bow(-1), Due.BAD);
        Due.is("bow(1)", x.bow(1), 1);
        Due.is("bow(0)", x.bow(0), 2);
        Due.is("bow(0) again", x.bow(0), 2);
        Due.is("ACTS", x.count(6), 3);
        Due.is("YARD", x.person(0, 3), 2);
        x.steps(1);
        Due.is("THROUGH bows", x.bow(0), Due.STATE);
        Due.is("bow(1) anew", x.bow(1), 1);
        Due.is("YARD", x.person(1, 3), 2);
    }

    private static void promise13revise() {
        YieldDoors x = Due.told("m1,2;g1,2,0;c1,1,0;");
        Due.is("revise(2, 0, 0)", x.revise(2, 0, 0), Due.BAD);
        Due.is("revise(0, 2, 0)", x.revise(0, 2, 0), Due.BAD);
        Due.is("revise(0, -1, 0)", x.revise(0, -1, 0), Due.BAD);
        Due.is("revise(0, 0, 10)", x.revise(0, 0, 10), Due.BAD);
        Due.is("revise(0, 0, -1)", x.revise(0, 0, -1), Due.BAD);
        Due.is("revise(0, 0, 9)", x.revise(0, 0, 9), 1);
        Due.is("revise(0, 1, 0)", x.revise(0, 1, 0), 2);
        Due.is("RANK", x.person(0, 0), 9);
        Due.is("HONOUR", x.person(0, 1), 0);
        x.steps(1);
        Due.is("THROUGH", x.revise(0, 0, 0), 9);
        Due.is("ACTS", x.count(6), 4);
    }

    private static void promise14person() {
        YieldDoors x = Due.told("m2,3;c4,6,0;s4,5,0;j9,9,0;g0,0,0;b0,5,0;c9,9,1;");
        int[] yields = {4, 5, 27, 0, 5};
        for (int one = 0; one < 5; one++) {
            Due.is("person(" + one + ", 5)", x.person(one, 5), yields[one]);
            Due.is("person(" + one + ", 4)", x.person(one, 4), one == 3 ? 1 : 0);
        }
        Due.is("person(5, 4)", x.person(5, 4), 1);
        Due.is("person(0, 0)", x.person(0, 0), 4);
        Due.is("person(0, 1)", x.person(0, 1), 6);
        Due.is("person(5, 2)", x.person(5, 2), 1);
        Due.is("person(0, 6)", x.person(0, 6), Due.BAD);
        Due.is("person(0, -1)", x.person(0, -1), Due.BAD);
        Due.is("person(6, 0)", x.person(6, 0), Due.BAD);
        x.bow(2);
        Due.is("NOBODY for", x.person(2, 3), 3);
        Due.is("NOBODY may", x.person(2, 4), 1);
        Due.is("NOBODY gives way", x.person(2, 5), 27);
        Due.is("to NOBODY none gives way", x.person(0, 5), 0);
        Due.is("so he may", x.person(0, 4), 1);
        x.steps(1);
        Due.is("THROUGH: DOOR", x.person(0, 2), Due.NONE);
        Due.is("THROUGH: may", x.person(0, 4), 0);
        Due.is("THROUGH: gives way", x.person(0, 5), 0);
    }

    private static void promise15door() {
        YieldDoors x = new YieldDoors();
        Due.is("door(9, 9) of none", x.door(9, 9), Due.STATE);
        Due.tell(x, SECRETARIES);
        Due.is("door(2, 0)", x.door(2, 0), Due.BAD);
        Due.is("door(-1, 0)", x.door(-1, 0), Due.BAD);
        Due.is("door(0, 2)", x.door(0, 2), Due.BAD);
        Due.is("door(0, 0)", x.door(0, 0), 7);
        Due.is("door(0, 1)", x.door(0, 1), Due.NONE);
        Due.is("door(1, 0)", x.door(1, 0), 8);
        Due.is("door(1, 1)", x.door(1, 1), 3);
        x.bow(1);
        Due.is("door(0, 1) bowed", x.door(0, 1), 1);
    }

    private static void promise16ahead() {
        YieldDoors x = Due.told(SECRETARIES);
        Due.is("ahead(4, 0)", x.ahead(4, 0), Due.BAD);
        Due.is("ahead(0, -1)", x.ahead(0, -1), Due.BAD);
        Due.is("ahead(0, 61)", x.ahead(0, 61), Due.BAD);
        Due.is("ahead(3, 0)", x.ahead(3, 0), 0);
        Due.is("ahead(3, 1)", x.ahead(3, 1), 1);
        Due.is("ahead(0, 60)", x.ahead(0, 60), 0);
        x.bow(0);
        x.bow(1);
        Due.is("ahead(2, 2)", x.ahead(2, 2), 0);
        Due.is("ahead(2, 3)", x.ahead(2, 3), 1);
        Due.is("nothing changes", x.count(3), 0);
        x.steps(1);
        Due.is("ahead(0, 0) THROUGH", x.ahead(0, 0), 1);
    }

    private static void promise17waitAhead() {
        YieldDoors x = new YieldDoors();
        Due.is("waitAhead(9, 99) of none", x.waitAhead(9, 99), Due.STATE);
        Due.tell(x, SECRETARIES);
        Due.is("waitAhead(2, 0)", x.waitAhead(2, 0), Due.BAD);
        Due.is("waitAhead(0, 61)", x.waitAhead(0, 61), Due.BAD);
        Due.is("waitAhead(0, -1)", x.waitAhead(0, -1), Due.BAD);
        Due.is("waitAhead(0, 60)", x.waitAhead(0, 60), 3);
        Due.is("waitAhead(1, 0)", x.waitAhead(1, 0), 1);
        Due.is("waitAhead(1, 1)", x.waitAhead(1, 1), 0);
        x.bow(2);
        Due.is("waitAhead(0, 60) bowed", x.waitAhead(0, 60), 2);
    }

    private static void promise18goes() {
        YieldDoors x = Due.told("m2,1;c1,0,0;c2,0,0;c3,0,0;s1,1,1;s1,1,1;");
        Due.is("goes(5)", x.goes(5), Due.BAD);
        Due.is("goes(0)", x.goes(0), 3);
        Due.is("goes(2)", x.goes(2), 1);
        Due.is("goes(3)", x.goes(3), Due.NONE);
        x.steps(1);
        Due.is("goes(2) THROUGH", x.goes(2), 0);
        Due.is("goes(0) then", x.goes(0), 2);
    }

    private static void promise19stuck() {
        YieldDoors x = new YieldDoors();
        Due.is("stuck() of none", x.stuck(), Due.STATE);
        Due.tell(x, "m2,1;c1,0,0;c2,0,0;c3,0,0;s1,1,1;s1,1,1;");
        Due.is("stuck()", x.stuck(), 24);
        x.bow(4);
        Due.is("stuck() behind a bow", x.stuck(), 0);
        x.steps(3);
        Due.is("stuck() of none left", x.stuck(), 0);
        Due.tell(x, "m4,1;s1,1,0;s1,1,0;g1,1,1;s1,1,3;s1,1,3;");
        Due.is("stuck() at two DOORS", x.stuck(), 27);
    }

    private static void promise20ring() {
        YieldDoors x = new YieldDoors();
        Due.is("ring(9, 9) of none", x.ring(9, 9), Due.STATE);
        Due.tell(x, "m2,2;c3,0,0;c5,1,0;b0,2,0;b9,1,0;g0,0,1;");
        // 0 gives way to 1 and 3; 1 to 3; 3 to 2; 2 to none: nobody goes round
        Due.is("ring none", x.ring(0, 0), Due.NONE);
        Due.is("ring none, which", x.ring(0, 1), Due.NONE);
        Due.is("ring(2, 0)", x.ring(2, 0), Due.BAD);
        Due.is("ring(0, 2)", x.ring(0, 2), Due.BAD);
        // c to c by RANK, that one to b by RANK, b to the first by HONOUR
        Due.tell(x, "m1,2;g0,0,0;c3,5,0;c5,1,0;b4,3,0;b6,4,0;");
        // 1 gives way to 2, 3, 4; 2 to 4; 3 to 1 and 4; 4 to 1
        Due.is("ring of two", x.ring(0, 0), 2);
        Due.is("the least of two", x.ring(0, 1), 10);
        x.bow(3);
        Due.is("without NOBODY", x.ring(0, 1), 18);
        Due.tell(x, "m1,2;c1,9,0;c2,8,0;b3,8,0;");
        // 0 gives way to 1, 2; 1 to 2; 2 to 0
        Due.is("two again", x.ring(0, 1), 5);
        Due.tell(x, "m1,2;c2,3,0;b0,1,0;c1,2,0;b2,2,0;");
        // 0 to none; 1 to 0, 2, 3; 2 to 0, 3; 3 to 0: none goes round
        Due.is("none", x.ring(0, 1), Due.NONE);
        Due.tell(x, "m1,2;g9,9,0;s3,3,0;c1,1,0;b2,0,0;c2,9,0;b4,5,0;");
        // 2 and 3 to each other, and 4 and 5
        Due.is("ring among many", x.ring(0, 1), 12);
        Due.tell(x, "m1,1;c1,9,0;c2,0,0;b3,0,0;");
        // 2 gives way to 0 alone, 0 to 1 and 2: a ring of two ahead of one of three
        Due.is("fewest", x.ring(0, 0), 2);
        Due.is("fewest, which", x.ring(0, 1), 5);
        Due.tell(x, "m1,1;c4,9,0;c5,0,0;b3,5,0;c2,1,0;b6,3,0;");
        // 0 to 1, 4; 1 to 4; 2 to 0; 3 to 0, 1, 2, 4; 4 to 0, 2
        Due.is("who is in none", x.ring(0, 1), 17);
    }

    private static void promise21bows() {
        YieldDoors x = new YieldDoors();
        Due.is("bows(9, 9) of none", x.bows(9, 9), Due.STATE);
        Due.tell(x, "m2,2;s1,0,0;s1,0,0;s1,0,0;g0,0,1;");
        Due.is("bows(2, 0)", x.bows(2, 0), Due.BAD);
        Due.is("bows(0, 2)", x.bows(0, 2), Due.BAD);
        Due.is("bows, a YARD of 2", x.bows(0, 0), 2);
        Due.is("which", x.bows(0, 1), 3);
        Due.is("none need", x.bows(1, 0), 0);
        Due.is("nothing changes", x.count(5), 0);
        Due.tell(x, "m1,1;s1,0,0;s1,0,0;s1,0,0;");
        Due.is("a YARD of 1", x.bows(0, 0), Due.NONE);
        Due.tell(x, "m1,3;j0,0,0;j0,0,0;j0,0,0;j0,0,0;");
        Due.is("all but one", x.bows(0, 1), 7);
        x.bow(3);
        Due.is("one bowed", x.bows(0, 0), 2);
        Due.is("one bowed, which", x.bows(0, 1), 3);
        Due.tell(x, "m1,2;s3,0,0;s3,0,0;c3,1,0;b0,0,0;");
        Due.is("one of two", x.bows(0, 0), 1);
        Due.is("one of two, which", x.bows(0, 1), 1);
        Due.tell(x, "m2,1;s1,0,0;g0,0,1;j1,1,0;");
        Due.is("the least", x.bows(0, 1), 1);
        Due.tell(x, "m1,1;j3,1,0;s3,2,0;b3,0,0;c1,5,0;");
        Due.is("NONE", x.bows(0, 0), Due.NONE);
        Due.is("NONE, which", x.bows(0, 1), Due.NONE);
    }

    private static void promise22raise() {
        YieldDoors x = new YieldDoors();
        Due.is("raise(9) of none", x.raise(9), Due.STATE);
        Due.tell(x, "m3,1;s5,0,0;s5,0,0;g0,0,1;j0,0,2;j0,0,2;j0,0,2;");
        Due.is("raise(3)", x.raise(3), Due.BAD);
        Due.is("raise(-1)", x.raise(-1), Due.BAD);
        Due.is("one less of the first", x.raise(0), 104);
        Due.is("none need be", x.raise(1), 0);
        Due.is("NONE helps", x.raise(2), Due.NONE);
        Due.is("nothing changes", x.person(0, 0), 5);
        Due.tell(x, "m1,1;s0,0,0;s0,0,0;");
        Due.is("upwards", x.raise(0), 101);
        Due.tell(x, "m1,1;c2,5,0;b7,1,0;");
        Due.is("by five", x.raise(0), 507);
        Due.tell(x, "m1,1;c0,5,0;b9,1,0;");
        Due.is("up to 9", x.raise(0), 909);
        Due.tell(x, "m1,1;c0,5,0;c0,5,0;b1,1,0;");
        Due.is("down to 0", x.raise(0), 120);
    }

    private static void promise23third() {
        YieldDoors x = new YieldDoors();
        Due.is("third(9, 9) of none", x.third(9, 9), Due.STATE);
        Due.tell(x, "m2,1;c2,5,0;b7,1,0;g0,0,1;j9,9,1;");
        Due.is("third(2, 0)", x.third(2, 0), Due.BAD);
        Due.is("third(0, 2)", x.third(0, 2), Due.BAD);
        Due.is("third", x.third(0, 0), 2);
        Due.is("third, how many", x.third(0, 1), 2);
        Due.is("third at 1", x.third(1, 0), 0);
        Due.is("third at 1, how many", x.third(1, 1), 2);
        x.steps(1);
        Due.is("THROUGH", x.third(0, 0), 2);
        Due.is("nothing changes", x.person(2, 2), Due.NONE);
        Due.tell(x, "m1,1;s1,0,0;s1,0,0;");
        Due.is("there is none", x.third(0, 0), Due.NONE);
        Due.is("there is none, how many", x.third(0, 1), Due.NONE);
        Due.tell(x, "m2,1;j1,0,0;j1,0,1;g1,0,1;");
        Due.is("who stays counts, too", x.third(0, 0), 2);
        Due.is("none stays", x.third(0, 1), 0);
    }

    private static void promise24bestDoor() {
        YieldDoors x = Due.told("m3,1;s5,0,0;s5,0,0;g0,0,1;g0,0,1;c9,9,2;");
        Due.is("bestDoor(5, 0)", x.bestDoor(5, 0), Due.BAD);
        Due.is("bestDoor(0, 2)", x.bestDoor(0, 2), Due.BAD);
        Due.is("bestDoor(0, 0)", x.bestDoor(0, 0), 1);
        Due.is("bestDoor(0, 1)", x.bestDoor(0, 1), 1);
        Due.is("bestDoor(3, 0)", x.bestDoor(3, 0), 0);
        Due.is("bestDoor(3, 1)", x.bestDoor(3, 1), 1);
        Due.is("where he WAITS", x.bestDoor(4, 0), 0);
        x.steps(1);
        Due.is("THROUGH", x.bestDoor(2, 0), Due.STATE);
        Due.is("THROUGH, BAD", x.bestDoor(2, 2), Due.BAD);
        Due.tell(x, "m1,1;j1,1,0;j1,1,0;");
        Due.is("NONE", x.bestDoor(0, 0), Due.NONE);
        Due.is("NONE, when", x.bestDoor(0, 1), Due.NONE);
        Due.tell(x, "m2,1;c1,1,0;c2,1,0;c3,1,1;c4,1,1;c5,1,1;");
        Due.is("behind two", x.bestDoor(0, 1), 2);
    }

    private static void promise25ranks() {
        YieldDoors x = Due.told("m2,1;c3,1,0;c5,2,0;g1,1,1;");
        x.row(0, 0, 14);
        x.row(1, 2, 0);
        Due.is("DOOR", x.ranks(2, 0, 0, 0, 1), Due.BAD);
        Due.is("PERSON", x.ranks(0, 3, 0, 0, 1), Due.BAD);
        Due.is("ROW", x.ranks(0, 0, 8, 0, 1), Due.BAD);
        Due.is("n 0", x.ranks(0, 0, 0, 0, 0), Due.BAD);
        Due.is("n 13", x.ranks(0, 0, 0, 0, 13), Due.BAD);
        Due.is("NULL", x.ranks(0, 0, 2, -1, 1), Due.NULL);
        Due.is("PLACE", x.ranks(0, 0, 1, 0, 1), Due.PLACE);
        Due.is("PLACE below", x.ranks(0, 0, 0, -1, 1), Due.PLACE);
        Due.is("PLACE beyond", x.ranks(0, 0, 0, 14, 1), Due.PLACE);
        x.set(0, 2, 1);
        x.set(0, 3, 0);
        for (int i = 4; i < 14; i++) {
            x.set(0, i, -1);
        }
        Due.is("1, then 0, then none", x.ranks(0, 0, 0, 2, 12), 31);
        Due.is("of the other", x.ranks(0, 1, 0, 2, 12), 1008);
        Due.is("of one elsewhere", x.ranks(0, 2, 0, 2, 3), 1023);
        Due.is("of one elsewhere, else", x.ranks(0, 2, 0, 3, 3), 0);
        Due.is("0 first", x.ranks(0, 0, 0, 1, 2), 1023 - 31);
        x.set(0, 2, 99);
        Due.is("no such one", x.ranks(0, 0, 0, 2, 1), 0);
        Due.is("nothing changes", x.person(0, 0), 3);
    }

    private static void promise26who() {
        YieldDoors x = Due.told("m2,1;c3,1,0;c5,2,0;g1,1,1;");
        x.row(0, 1, 3);
        Due.is("DOOR", x.who(2, 0, 0, 0, 1), Due.BAD);
        Due.is("PERSON", x.who(0, -1, 0, 0, 1), Due.BAD);
        Due.is("ROW", x.who(0, 0, -1, 0, 1), Due.BAD);
        Due.is("n 0", x.who(0, 0, 0, 0, 0), Due.BAD);
        Due.is("n 13", x.who(0, 0, 0, 0, 13), Due.BAD);
        Due.is("NULL", x.who(0, 0, 2, 9, 1), Due.NULL);
        Due.is("PLACE", x.who(0, 0, 0, 2, 2), Due.PLACE);
        x.set(0, 0, 1);
        x.set(0, 1, 0);
        x.set(0, 2, -1);
        Due.is("all but a guest", x.who(0, 0, 0, 0, 3), 46);
        Due.is("none there", x.who(1, 0, 0, 0, 1), 0);
        Due.is("nothing changes", x.kind(0), 1);
    }

    private static void promise27precedence() {
        YieldDoors x = new YieldDoors();
        Due.is("precedence(9, -1) of none", x.precedence(9, -1), Due.STATE);
        Due.tell(x, "m2,9;c1,0,0;c9,0,0;c5,0,0;s1,1,1;s1,1,1;");
        Due.is("precedence(2, 0)", x.precedence(2, 0), Due.BAD);
        Due.is("precedence(0, -1)", x.precedence(0, -1), Due.BAD);
        Due.is("precedence(0, 0)", x.precedence(0, 0), 1);
        Due.is("precedence(0, 1)", x.precedence(0, 1), 2);
        Due.is("precedence(0, 2)", x.precedence(0, 2), 0);
        Due.is("precedence(0, 3)", x.precedence(0, 3), Due.NONE);
        Due.is("precedence(0, max)", x.precedence(0, Integer.MAX_VALUE), Due.NONE);
        Due.is("precedence(1, 0)", x.precedence(1, 0), Due.NONE);
    }

    private static void promise28both() {
        YieldDoors x = new YieldDoors();
        Due.is("both(9) of none", x.both(9), Due.STATE);
        Due.tell(x, "m2,9;g9,9,0;c5,1,0;j5,1,1;s5,0,0;c6,1,0;");
        Due.is("both(2)", x.both(2), Due.BAD);
        Due.is("both(-1)", x.both(-1), Due.BAD);
        Due.is("both(0)", x.both(0), 1);
        Due.is("both(1)", x.both(1), 23);
        x.steps(2);
        Due.is("THROUGH or not", x.both(1), 23);
        Due.tell(x, "m1,1;g0,0,0;c1,1,0;");
        Due.is("none", x.both(0), 0);
        Due.is("no first", x.both(1), Due.NONE);
    }

    private static void promise29faint() {
        YieldDoors x = new YieldDoors();
        Due.is("faint(9, 99, 9) of none", x.faint(9, 99, 9), Due.STATE);
        Due.tell(x, "m3,1;s5,0,0;s5,0,0;g0,0,1;");
        Due.is("faint(3, 0, 0)", x.faint(3, 0, 0), Due.BAD);
        Due.is("faint(0, 11, 0)", x.faint(0, 11, 0), Due.BAD);
        Due.is("faint(0, -1, 0)", x.faint(0, -1, 0), Due.BAD);
        Due.is("faint(0, 0, 2)", x.faint(0, 0, 2), Due.BAD);
        fraction(x, 0, 0, 0, 1);
        fraction(x, 0, 1, 9, 50);
        fraction(x, 0, 5, 1, 2);
        fraction(x, 0, 10, 0, 1);
        fraction(x, 1, 0, 1, 1);
        fraction(x, 1, 3, 7, 10);
        fraction(x, 1, 10, 0, 1);
        fraction(x, 2, 3, 0, 1);
        x.bow(0);
        fraction(x, 0, 1, 99, 100);
        Due.tell(x, "m1,1;g0,0,0;g0,0,0;g0,0,0;g0,0,0;g0,0,0;g0,0,0;g0,0,0;");
        fraction(x, 0, 1, 9999999, 10000000);
        fraction(x, 0, 9, 10000000 - 4782969, 10000000);
    }

    private static void fraction(YieldDoors x, int door, int p, long above, long below) {
        Due.is("faint(" + door + ", " + p + ", 0)", x.faint(door, p, 0), above);
        Due.is("faint(" + door + ", " + p + ", 1)", x.faint(door, p, 1), below);
    }

    private static void promise30drawn() {
        YieldDoors x = new YieldDoors();
        Due.is("drawn(99, 0, 9) of none", x.drawn(99, 0, 9), Due.STATE);
        Due.tell(x, "m2,3;s5,0,0;s5,0,0;s5,0,0;");
        Due.is("drawn(61, 1, 0)", x.drawn(61, 1, 0), Due.BAD);
        Due.is("drawn(-1, 1, 0)", x.drawn(-1, 1, 0), Due.BAD);
        Due.is("drawn(1, 0, 0)", x.drawn(1, 0, 0), Due.BAD);
        Due.is("drawn(1, 1000000, 0)", x.drawn(1, 1000000, 0), Due.BAD);
        Due.is("drawn(1, 1, 2)", x.drawn(1, 1, 2), Due.BAD);
        Due.is("drawn(0, 1, 0)", x.drawn(0, 1, 0), 0);
        Due.is("drawn(0, 1, 1)", x.drawn(0, 1, 1), 3);
        // 16807 is 1 by 3: 1 bows and goes; 282475249 is 1 by 3, 1 by 2: 1 comes to DOOR 1, and goes
        Due.is("drawn(1, 1, 0)", x.drawn(1, 1, 0), 1);
        Due.is("drawn(1, 1, 1)", x.drawn(1, 1, 1), 2);
        Due.is("drawn(2, 1, 0)", x.drawn(2, 1, 0), 2);
        Due.is("drawn(2, 1, 1)", x.drawn(2, 1, 1), 2);
        // 1622650073 is 2 by 3: 2 bows and goes, and the last behind him
        Due.is("drawn(3, 1, 1)", x.drawn(3, 1, 1), 1);
        Due.is("drawn(60, 999999, 1)", x.drawn(60, 999999, 1) >= 0 ? 1 : 0, 1);
        Due.is("nothing changes", x.count(4), 0);
        Due.tell(x, "m1,2;j5,0,0;j5,0,0;");
        // 16807 is 1 by 2: 1 BOWS, so that 0 goes; 282475249, too: 1 BOWS anew, and goes
        Due.is("drawn(1, 1, 1) at one DOOR", x.drawn(1, 1, 1), 1);
        Due.is("drawn(2, 1, 0) at one DOOR", x.drawn(2, 1, 0), 2);
        Due.is("drawn(2, 1, 1) at one DOOR", x.drawn(2, 1, 1), 0);
        // 2 times 16807 is 0 by 2: 0 BOWS
        Due.is("drawn(1, 2, 0), 0 BOWS", x.drawn(1, 2, 0), 1);
    }

    private static void promise31and32images() {
        YieldDoors x = new YieldDoors();
        Due.is("image(-1)", x.image(-1), Due.BAD);
        Due.is("image(2)", x.image(2), Due.BAD);
        Due.is("image(0) of none", x.image(0), Due.STATE);
        Due.is("restore(-1)", x.restore(-1), Due.BAD);
        Due.is("restore(2)", x.restore(2), Due.BAD);
        Due.is("restore(0) of none", x.restore(0), Due.STATE);
        Due.tell(x, "m2,4;c1,2,0;s3,4,1;");
        x.bow(0);
        x.steps(1);
        x.come(0, 1);
        x.bow(0);
        x.revise(1, 0, 7);
        Due.is("image(1)", x.image(1), 1);
        Due.is("ACTS stay", x.count(6), 5);
        Due.is("restore(0) yet", x.restore(0), Due.STATE);
        Due.tell(x, "m1,1;g0,0,0;g0,0,0;g0,0,0;");
        Due.is("image(0)", x.image(0), 1);
        x.steps(2);
        Due.is("restore(1)", x.restore(1), 1);
        Due.is("DOORS", x.count(1), 2);
        Due.is("PEOPLE", x.count(2), 2);
        Due.is("STEP", x.count(3), 1);
        Due.is("THROUGH", x.count(4), 2);
        Due.is("NOBODY", x.person(0, 3), 4);
        Due.is("RANK", x.person(1, 0), 7);
        Due.is("KIND", x.kind(1), 2);
        Due.is("ACTS", x.count(6), 0);
        Due.is("undo()", x.undo(), Due.STATE);
        x.revise(1, 0, 2);
        Due.is("restore(1) again", x.restore(1), 1);
        Due.is("RANK again", x.person(1, 0), 7);
        Due.is("restore(0)", x.restore(0), 1);
        Due.is("PEOPLE", x.count(2), 3);
        Due.is("STEP", x.count(3), 0);
    }

    private static void promise33kind() {
        YieldDoors x = Due.told("m1,1;c0,0,0;s0,0,0;j0,0,0;g0,0,0;b0,0,0;");
        for (int one = 0; one < 5; one++) {
            Due.is("kind(" + one + ")", x.kind(one), one + 1);
        }
        Due.is("kind(5)", x.kind(5), Due.BAD);
        Due.is("kind(-1)", x.kind(-1), Due.BAD);
    }

    private static void promise34as() {
        YieldDoors x = Due.told("m1,1;c0,0,0;s0,0,0;j0,0,0;g0,0,0;b0,0,0;");
        String[] kinds = {"01", "012", "013", "04", "045"};
        for (int one = 0; one < 5; one++) {
            for (int kind = 0; kind <= 5; kind++) {
                boolean isOne = kinds[one].indexOf((char) ('0' + kind)) >= 0;
                Due.is("as(" + one + ", " + kind + ")", x.as(one, kind), isOne ? one : Due.KIND);
                Due.is("status()", x.status(), isOne ? 0 : 3);
            }
        }
        Due.is("as(5, 0)", x.as(5, 0), Due.BAD);
        Due.is("as(0, 6)", x.as(0, 6), Due.BAD);
        Due.is("as(0, -1)", x.as(0, -1), Due.BAD);
    }

    private static void promise35and36asks() {
        YieldDoors x = Due.told("m1,1;c5,3,0;s6,4,0;j7,2,0;g8,1,0;b9,0,0;");
        asked(x, 0, 0, 5 + 3, 11, 10, 21, 20);
        asked(x, 1, 0, -(6 + 2 * (1 + 4)), 12, 11, 10, 24, 21, 20);
        asked(x, 2, 0, 7 + 2 + 2 - 1000, 11, 10, 22, 21, 20);
        asked(x, 3, 0, 8 - 100, 13, 10);
        asked(x, 4, 0, 2 * (9 - 100), 14, 13, 10);
        asked(x, 0, 1, 3, 21, 20);
        asked(x, 1, 1, 2 * (1 + 4), 24, 21, 20);
        asked(x, 2, 1, 2 + 2 - 1000, 22, 21, 20);
        asked(x, 3, 1, 3 - (8 - 100), 23, 20, 13, 10);
        asked(x, 4, 1, 4 - 2 * (9 - 100), 23, 20, 14, 13, 10);
        Due.is("ask(5, 0)", x.ask(5, 0), Due.BAD);
        Due.is("ask(0, 2)", x.ask(0, 2), Due.BAD);
        Due.is("ask(0, -1)", x.ask(0, -1), Due.BAD);
        Due.is("THE TRACE stays", x.trace(4), 10);
        Due.is("trace(-1)", x.trace(-1), Due.NONE);
        Due.is("trace(16)", x.trace(16), Due.NONE);
    }

    private static void asked(YieldDoors x, int one, int what, int answer, int... bodies) {
        String call = "ask(" + one + ", " + what + ")";
        Due.is(call, x.ask(one, what), answer);
        for (int i = 0; i < bodies.length; i++) {
            Due.is(call + ": trace(" + i + ")", x.trace(i), bodies[i]);
        }
        Due.is(call + ": trace behind", x.trace(bodies.length), Due.NONE);
    }

    private static void promise37count() {
        YieldDoors x = Due.told("m3,5;g0,0,0;j0,0,0;j0,0,0;c1,1,2;");
        x.row(3, 0, 1);
        x.row(4, 1, 0);
        x.bow(2);
        x.steps(1);
        x.bow(1);
        x.feed(1);
        int[] counts = {2, 3, 4, 1, 9, 6, 3, 1};
        for (int what = 0; what < counts.length; what++) {
            Due.is("count(" + what + ")", x.count(what), counts[what]);
        }
        Due.is("count(-1)", x.count(-1), Due.BAD);
        Due.is("count(8)", x.count(8), Due.BAD);
    }

    private static void promise38status() {
        YieldDoors x = Due.told("m1,1;c0,0,0;");
        statusBehind(x, x.row(0, 0, -1), 4);
        statusBehind(x, x.row(0, 0, 41), 4);
        statusBehind(x, x.row(0, 0, 4), 0);
        statusBehind(x, x.set(1, 0, 0), 1);
        statusBehind(x, x.set(8, 0, 0), 1);
        statusBehind(x, x.set(0, 0, 0), 0);
        statusBehind(x, x.set(0, 4, 0), 2);
        statusBehind(x, x.copy(0, 0, 0, 0, 1), 0);
        statusBehind(x, x.drop(1), 1);
        statusBehind(x, x.row(1, 1, 0), 0);
        statusBehind(x, x.copy(0, 0, 1, 0, 0), 5);
        statusBehind(x, x.count(0), 5);
        statusBehind(x, x.steps(1), 5);
        statusBehind(x, x.drop(1), 0);
        statusBehind(x, x.as(0, 4), 3);
        statusBehind(x, x.ranks(0, 0, 0, 0, 0), 3);
        statusBehind(x, x.ranks(0, 0, 0, 0, 1), 0);
        statusBehind(x, x.who(0, 0, 7, 0, 1), 1);
        statusBehind(x, x.as(0, 9), 1);
        statusBehind(x, x.as(0, 1), 0);
        statusBehind(x, x.ranks(0, 0, 0, 4, 1), 2);
        statusBehind(x, x.who(0, 0, 0, 0, 1), 0);
    }

    private static void statusBehind(YieldDoors x, int answer, int want) {
        Due.is("status() behind " + answer, x.status(), want);
        Due.is("status() again", x.status(), want);
    }
}
