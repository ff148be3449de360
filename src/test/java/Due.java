/** What the tests share: answers that are due, and objects that are told a text. */
final class Due {
    static final int NONE = YieldDoors.NONE, BAD = YieldDoors.BAD, STATE = YieldDoors.STATE, FULL = YieldDoors.FULL;
    static final int NULL = -1000011, PLACE = -1000012, KIND = -1000013, SIZE = -1000014, STORE = -1000015;
    static final int LEAST = Integer.MIN_VALUE, MOST = Integer.MAX_VALUE;

    /** Seven of whom none MAY go, unless he BOWS. */
    static final String JUNIORS = "m1,1;j0,0,0;j0,0,0;j0,0,0;j0,0,0;j0,0,0;j0,0,0;j0,0,0;";
    static final String GUESTS = "m1,1;g0,0,0;g0,0,0;g0,0,0;g0,0,0;g0,0,0;g0,0,0;g0,0,0;";

    private static int wrong = 0;
    private static int checked = 0;
    private static int checkedBefore = 0;
    private static String test = "";

    /** From now on what is wrong is told by the name of a test. */
    static void begin(String name) {
        test = name + ": ";
        checkedBefore = checked;
    }

    static boolean looked() {
        return checked > checkedBefore;
    }

    static void is(String call, long got, long want) {
        checked++;
        if (got != want) {
            wrong++;
            if (wrong <= 50) {
                System.out.println(test + call + " answered " + got + ", due is " + want);
            }
        }
    }

    static void holds(String what, boolean so) {
        is(what + " (1: so)", so ? 1 : 0, 1);
    }

    static boolean anyWrong() {
        return wrong != 0;
    }

    static void end() {
        System.out.println(checked + " answers looked at, " + wrong + " wrong");
        if (wrong != 0) {
            System.exit(1);
        }
    }

    static int tell(YieldDoors x, String text) {
        for (int i = 0; i < text.length(); i++) {
            x.feed(text.charAt(i));
        }
        return x.ministry();
    }

    static YieldDoors told(String text) {
        YieldDoors x = new YieldDoors();
        int people = tell(x, text);
        if (people < 1) {
            is("ministry() of " + text, people, 1);
        }
        return x;
    }

    /** No call reads an ITEM out: who of the JUNIORS has to BOW to go as it tells, does; -2: none of -1 to 6. */
    static int item(YieldDoors x, int row, int i) {
        if (x.ranks(0, 0, row, i, 1) == 1023) {
            return -1;
        }
        for (int one = 0; one < 7; one++) {
            x.bow(one);
            boolean isSo = x.ranks(0, one, row, i, 1) == 1023;
            x.undo();
            if (isSo) {
                return one;
            }
        }
        return -2;
    }

    /** One with something of all that can be kept: ROWS, THE TAPE, a FAULT, ACTS, an IMAGE, THE TRACE, a FINDING. */
    static YieldDoors busy() {
        YieldDoors x = new YieldDoors();
        x.row(0, 0, 3);
        x.set(0, 1, 2);
        x.row(5, 2, 40);
        tell(x, "m9");
        tell(x, "m3,4;s5,1,0;s5,2,0;b4,3,1;c3,9,1;g0,0,2;j1,1,0;");
        x.image(1);
        x.revise(0, 1, 4);
        x.steps(2);
        x.bow(3);
        x.come(3, 0);
        x.come(2, 1);
        x.bow(2);
        x.ask(1, 0);
        x.feed('m');
        x.feed('2');
        x.as(0, 4);
        return x;
    }

    /** Whether two answer alike whatever is asked of them; then nothing more is to be done with them. */
    static void alike(YieldDoors x, YieldDoors y) {
        is("status()", x.status(), y.status());
        alikeButStatus(x, y);
    }

    static void alikeButStatus(YieldDoors x, YieldDoors y) {
        is("fault()", x.fault(), y.fault());
        for (int i = 0; i < 6; i++) {
            is("trace(" + i + ")", x.trace(i), y.trace(i));
        }
        alikeNow(x, y);
        for (int row = 0; row < 8; row++) {
            for (int n : new int[] {0, 1, 3, 4, 40}) {
                is("copy of " + n + " in " + row, x.copy(row, 0, row, 0, n), y.copy(row, 0, row, 0, n));
            }
            is("set in " + row, x.set(row, 0, 70000), y.set(row, 0, 70000));
            is("ranks by " + row, x.ranks(0, 0, row, 1, 1), y.ranks(0, 0, row, 1, 1));
        }
        for (int i = 0; i < 6; i++) {
            is("undo()", x.undo(), y.undo());
            is("THROUGH, behind undo()", x.count(4), y.count(4));
            is("NOBODY, behind undo()", x.count(5), y.count(5));
        }
        for (int k = 0; k < 2; k++) {
            is("restore(" + k + ")", x.restore(k), y.restore(k));
            alikeNow(x, y);
        }
        is("ministry()", x.ministry(), y.ministry());
    }

    private static void alikeNow(YieldDoors x, YieldDoors y) {
        for (int what = 0; what < 8; what++) {
            is("count(" + what + ")", x.count(what), y.count(what));
        }
        for (int one = 0; one < 7; one++) {
            for (int what = 0; what < 4; what++) {
                is("person(" + one + ", " + what + ")", x.person(one, what), y.person(one, what));
            }
            is("kind(" + one + ")", x.kind(one), y.kind(one));
        }
        is("both(0)", x.both(0), y.both(0));
        is("stuck()", x.stuck(), y.stuck());
        is("drawn(60, 5, 0)", x.drawn(60, 5, 0), y.drawn(60, 5, 0));
    }

    private Due() {
    }
}
