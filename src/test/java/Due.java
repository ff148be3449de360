/** What the tests share: answers that are due, and objects that are told a text. */
final class Due {
    static final int NONE = YieldDoors.NONE, BAD = YieldDoors.BAD, STATE = YieldDoors.STATE, FULL = YieldDoors.FULL;
    static final int NULL = -1000011, PLACE = -1000012, KIND = -1000013, SIZE = -1000014, STORE = -1000015;

    private static int wrong = 0;
    private static int checked = 0;

    static void is(String call, long got, long want) {
        checked++;
        if (got != want) {
            wrong++;
            if (wrong <= 50) {
                System.out.println(call + " answered " + got + ", due is " + want);
            }
        }
    }

    static void holds(String what, boolean so) {
        is(what + " (1: so)", so ? 1 : 0, 1);
    }

    static boolean anyWrong() {
        return wrong != 0;
    }

    static void end() {
        System.out.println(checked + " answers looked at, " + wrong + " wrong");
        if (wrong != 0) {
            System.exit(1);
        }
    }

    static int tell(YieldDoors x, String text) {
        for (int i = 0; i < text.length(); i++) {
            x.feed(text.charAt(i));
        }
        return x.ministry();
    }

    static YieldDoors told(String text) {
        YieldDoors x = new YieldDoors();
        int people = tell(x, text);
        if (people < 1) {
            is("ministry() of " + text, people, 1);
        }
        return x;
    }

    private Due() {
    }
}
