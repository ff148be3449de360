import java.util.Random;

/** Any arguments in any state: nothing throws, twins answer alike, and no call takes room. */
public final class WildTest {
    private static final int[] EDGES = {
        Integer.MIN_VALUE, Integer.MIN_VALUE + 1, -1000000, -41, -2, -1, 0, 1, 2, 3, 4, 5, 6, 7, 8, 9, 10, 11, 12, 13,
        24, 25, 39, 40, 41, 60, 61, 99, 255, 256, 999, 999999, 1000000, Integer.MAX_VALUE - 1, Integer.MAX_VALUE
    };
    private static final int CALLS = 38, OBJECTS = 600;

    public static void main(String[] args) {
        for (int seed = 0; seed < OBJECTS; seed++) {
            YieldDoors x = new YieldDoors();
            YieldDoors twin = new YieldDoors();
            tell(x, seed);
            tell(twin, seed);
            Random dice = new Random(seed);
            for (int i = 0; i < 450; i++) {
                int call = dice.nextInt(CALLS);
                int[] a = new int[5];
                for (int k = 0; k < a.length; k++) {
                    a[k] = dice.nextInt(3) == 0 ? EDGES[dice.nextInt(EDGES.length)] : dice.nextInt(8);
                }
                Due.is("call " + call + " of a twin, " + seed, answer(twin, call, a), answer(x, call, a));
            }
        }
        takesNoRoom();
        Due.end();
    }

    private static void tell(YieldDoors x, int seed) {
        if (seed % 4 != 0) {
            Due.tell(x, "m4,3;c5,1,0;s5,2,0;b4,9,0;j1,1,1;j1,2,1;g0,0,2;s7,7,0;");
        }
    }

    private static void takesNoRoom() {
        com.sun.management.ThreadMXBean threads =
                (com.sun.management.ThreadMXBean) java.lang.management.ManagementFactory.getThreadMXBean();
        YieldDoors x = new YieldDoors();
        tell(x, 1);
        int[] a = {0, 1, 0, 0, 1};
        long self = Thread.currentThread().getId();
        threads.getThreadAllocatedBytes(self);
        long before = threads.getThreadAllocatedBytes(self);
        for (int i = 0; i < 10; i++) {
            for (int call = 0; call < CALLS; call++) {
                answer(x, call, a);
            }
        }
        long taken = threads.getThreadAllocatedBytes(self) - before;
        Due.holds("380 calls take no room, but took " + taken, taken < 1000);
    }

    private static long answer(YieldDoors x, int call, int[] a) {
        return call < 15 ? told(x, call, a) : call < 32 ? foretold(x, call, a) : asked(x, call, a);
    }

    private static long told(YieldDoors x, int call, int[] a) {
        switch (call) {
            case 0:
                return x.row(a[0], a[1], a[2]);
            case 1:
                return x.set(a[0], a[1], a[2]);
            case 2:
                return x.copy(a[0], a[1], a[2], a[3], a[4]);
            case 3:
                return x.drop(a[0]);
            case 4:
                return x.feed(a[0]);
            case 5:
                return x.fault() + (a[0] == 0 ? x.ministry() : 0);
            case 6:
                return x.undo();
            case 7:
            case 8:
                return x.steps(a[0]);
            case 9:
                return x.come(a[0], a[1]);
            case 10:
                return x.bow(a[0]);
            case 11:
                return x.revise(a[0], a[1], a[2]);
            case 12:
                return x.person(a[0], a[1]);
            case 13:
                return x.door(a[0], a[1]);
            default:
                return x.status();
        }
    }

    private static long foretold(YieldDoors x, int call, int[] a) {
        switch (call) {
            case 15:
                return x.ahead(a[0], a[1]);
            case 16:
                return x.waitAhead(a[0], a[1]);
            case 17:
                return x.goes(a[0]);
            case 18:
                return x.stuck();
            case 19:
                return x.ring(a[0], a[1]);
            case 20:
                return x.bows(a[0], a[1]);
            case 21:
                return x.raise(a[0]);
            case 22:
                return x.third(a[0], a[1]);
            case 23:
                return x.bestDoor(a[0], a[1]);
            case 24:
                return x.ranks(a[0], a[1], a[2], a[3], a[4]);
            case 25:
                return x.who(a[0], a[1], a[2], a[3], a[4]);
            case 26:
                return x.precedence(a[0], a[1]);
            case 27:
                return x.both(a[0]);
            case 28:
                return x.faint(a[0], a[1], a[2]);
            case 29:
                return x.drawn(a[0], a[1], a[2]);
            case 30:
                return x.image(a[0]);
            default:
                return x.restore(a[0]);
        }
    }

    private static long asked(YieldDoors x, int call, int[] a) {
        switch (call) {
            case 32:
                return x.kind(a[0]);
            case 33:
                return x.as(a[0], a[1]);
            case 34:
                return x.ask(a[0], a[1]);
            case 35:
                return x.trace(a[0]);
            case 36:
                return x.count(a[0]);
            default:
                return x.row(a[0], a[1], a[2] & 15);
        }
    }
}
