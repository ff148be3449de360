import java.util.Random;

/** Long runs of calls, of the class and of the model: each answer is the same. */
public final class ModelTest {
    private static final int RUNS = 1500, CALLS = 512;

    public static void main(String[] args) {
        for (int run = 0; run < RUNS && !Due.anyWrong(); run++) {
            new ModelTest(run).play();
        }
        Due.end();
    }

    private final int run;
    private final Random dice;
    private final YieldDoors x = new YieldDoors();
    private final Model m = new Model();
    private final int doors;
    private int calls = 0;

    private ModelTest(int run) {
        this.run = run;
        // small seeds in a row begin alike
        dice = new Random(run * 0x9E3779B97F4A7C15L);
        doors = 1 + dice.nextInt(4);
    }

    private void play() {
        if (run % 10 != 0) {
            feed(text());
        }
        while (calls < CALLS && !Due.anyWrong()) {
            if (dice.nextInt(120) == 0) {
                feed(dice.nextBoolean() ? text() : spoilt(text()));
            } else {
                call();
            }
        }
    }

    private String text() {
        StringBuilder s = new StringBuilder();
        s.append('m').append(doors).append(',').append(1 + dice.nextInt(dice.nextBoolean() ? 3 : 9)).append(';');
        int people = run % 3 == 0 ? 1 + dice.nextInt(7) : 7;
        int ranks = 1 + dice.nextInt(10);
        String sorts = dice.nextInt(3) == 0 ? "sb" : dice.nextBoolean() ? "csb" : "csjgb";
        for (int i = 0; i < people; i++) {
            s.append(sorts.charAt(dice.nextInt(sorts.length()))).append(dice.nextInt(ranks)).append(',');
            s.append(dice.nextInt(ranks)).append(',').append(dice.nextInt(doors)).append(';');
        }
        return s.toString();
    }

    private String spoilt(String text) {
        StringBuilder s = new StringBuilder(text);
        String odd = "0123456789,;csjgbm xz\u0000\u00ff";
        int at = dice.nextInt(s.length() + 1);
        char c = odd.charAt(dice.nextInt(odd.length()));
        switch (dice.nextInt(4)) {
            case 0:
                s.insert(at, c);
                break;
            case 1:
                s.setLength(at);
                break;
            case 2:
                s.append("c1,1,0;g0");
                break;
            default:
                s.setCharAt(Math.min(at, s.length() - 1), c);
        }
        return s.toString();
    }

    private void feed(String text) {
        for (int i = 0; i < text.length(); i++) {
            same("feed", x.feed(text.charAt(i)), m.feed(text.charAt(i)));
        }
        same("ministry", x.ministry(), m.ministry());
        same("fault", x.fault(), m.fault());
    }

    private void same(String call, long got, long want) {
        calls++;
        Due.is("run " + run + ", call " + calls + ": " + call, got, want);
    }

    /** Mostly as told, at times next to it. */
    private int upTo(int most) {
        return dice.nextInt(40) == 0 ? (dice.nextBoolean() ? -1 : most + 1) : dice.nextInt(most + 1);
    }

    private int door() {
        return upTo(doors - 1);
    }

    private void call() {
        switch (dice.nextInt(5)) {
            case 0:
                callOfRows();
                break;
            case 1:
                callThatActs();
                break;
            case 2:
                callThatAsks();
                break;
            default:
                callThatForetells();
        }
    }

    private void callOfRows() {
        int row = upTo(7);
        int n = dice.nextInt(4) == 0 ? upTo(40) : dice.nextInt(5);
        int i = upTo(4);
        switch (dice.nextInt(7)) {
            case 0:
                int lane = upTo(2);
                same("row", x.row(row, lane, n), m.row(row, lane, n));
                break;
            case 1:
                int v = dice.nextBoolean() ? dice.nextInt() : upTo(7) - 1;
                same("set", x.set(row, i, v), m.set(row, i, v));
                break;
            case 2:
                int b = upTo(7);
                int j = upTo(4);
                same("copy", x.copy(row, i, b, j, n), m.copy(row, i, b, j, n));
                break;
            case 3:
                if (dice.nextInt(4) == 0) {
                    same("drop", x.drop(row), m.drop(row));
                }
                break;
            default:
                seen(row);
        }
        same("status", x.status(), m.status());
    }

    /** What the model says that goes, with one RANK changed at times, is what is SEEN. */
    private void seen(int row) {
        int door = door();
        int n = 1 + dice.nextInt(dice.nextBoolean() ? 3 : 12);
        int i = dice.nextInt(3);
        same("row", x.row(row, 2, i + n), m.row(row, 2, i + n));
        Model.World w = m.now.like();
        if (!w.people.isEmpty() && dice.nextBoolean()) {
            Model.Person p = w.people.get(dice.nextInt(w.people.size()));
            p.rank = dice.nextInt(10);
            p.sort = "csjgb".charAt(dice.nextInt(5));
        }
        for (int k = 0; k < n; k++) {
            int v = dice.nextInt(60) == 0 ? upTo(6) : w.who(door);
            same("set", x.set(row, i + k, v), m.set(row, i + k, v));
            w.goOn();
        }
        for (int one = 0; one < 7; one++) {
            same("ranks", x.ranks(door, one, row, i, n), m.ranks(door, one, row, i, n));
            same("who", x.who(door, one, row, i, n), m.who(door, one, row, i, n));
        }
    }

    private void callThatActs() {
        int one = upTo(6);
        int door = door();
        int n = upTo(9);
        switch (dice.nextInt(9)) {
            case 0:
                int steps = dice.nextInt(4) == 0 ? upTo(24) : 1;
                same("steps", x.steps(steps), m.steps(steps));
                break;
            case 1:
            case 2:
            case 3:
                same("come", x.come(one, door), m.come(one, door));
                break;
            case 4:
                same("bow", x.bow(one), m.bow(one));
                break;
            case 5:
                int which = upTo(1);
                same("revise", x.revise(one, which, n), m.revise(one, which, n));
                break;
            case 6:
                same("undo", x.undo(), m.undo());
                break;
            case 7:
                int image = upTo(1);
                same("image", x.image(image), m.image(image));
                break;
            default:
                int kept = upTo(1);
                same("restore", x.restore(kept), m.restore(kept));
        }
    }

    private void callThatAsks() {
        int one = upTo(6);
        int what = upTo(1);
        switch (dice.nextInt(5)) {
            case 0:
                same("kind", x.kind(one), m.kind(one));
                break;
            case 1:
                int kind = upTo(5);
                same("as", x.as(one, kind), m.as(one, kind));
                same("status", x.status(), m.status());
                break;
            case 2:
                same("ask", x.ask(one, what), m.ask(one, what));
                for (int i = 0; i < 7; i++) {
                    same("trace", x.trace(i), m.trace(i));
                }
                break;
            case 3:
                int count = upTo(7);
                same("count", x.count(count), m.count(count));
                break;
            default:
                int of = upTo(5);
                same("person", x.person(one, of), m.person(one, of));
        }
    }

    private void callThatForetells() {
        int one = upTo(6);
        int door = door();
        int what = upTo(1);
        int n = upTo(dice.nextBoolean() ? 60 : 9);
        switch (dice.nextInt(15)) {
            case 0:
                same("ahead", x.ahead(one, n), m.ahead(one, n));
                break;
            case 1:
                same("waitAhead", x.waitAhead(door, n), m.waitAhead(door, n));
                break;
            case 2:
                same("goes", x.goes(one), m.goes(one));
                break;
            case 3:
                same("stuck", x.stuck(), m.stuck());
                break;
            case 4:
            case 5:
                same("ring", x.ring(door, what), m.ring(door, what));
                break;
            case 6:
                same("bows", x.bows(door, what), m.bows(door, what));
                break;
            case 7:
                same("raise", x.raise(door), m.raise(door));
                break;
            case 8:
                same("third", x.third(door, what), m.third(door, what));
                break;
            case 9:
                same("bestDoor", x.bestDoor(one, what), m.bestDoor(one, what));
                break;
            case 10:
                same("precedence", x.precedence(door, n % 8), m.precedence(door, n % 8));
                break;
            case 11:
                same("both", x.both(what), m.both(what));
                break;
            case 12:
                int p = upTo(10);
                same("faint", x.faint(door, p, what), m.faint(door, p, what));
                break;
            case 13:
                int seed = 1 + dice.nextInt(999999);
                same("drawn", x.drawn(n, seed, what), m.drawn(n, seed, what));
                break;
            default:
                same("door", x.door(door, what), m.door(door, what));
        }
    }
}
