import java.util.ArrayList;
import java.util.List;

/** The document again, in its plainest and slowest form: each STEP is gone, each case is tried. */
final class Model {
    static final int NONE = -1000000, BAD = -1000001, STATE = -1000002, FULL = -1000003;

    static final class Person implements Cloneable {
        char sort;
        int rank;
        int honour;
        int door;
        int nobody;

        Person like() {
            try {
                return (Person) clone();
            } catch (CloneNotSupportedException e) {
                throw new IllegalStateException(e);
            }
        }

        boolean givesWayTo(Person other) {
            switch (sort) {
                case 'c':
                    return other.rank > rank;
                case 's':
                    return other.rank >= rank;
                case 'j':
                    return true;
                case 'b':
                    return other.honour > honour;
                default:
                    return false;
            }
        }
    }

    static final class World {
        int doors;
        int yard;
        int step;
        List<Person> people = new ArrayList<>();

        World like() {
            World w = new World();
            w.doors = doors;
            w.yard = yard;
            w.step = step;
            for (Person p : people) {
                w.people.add(p.like());
            }
            return w;
        }

        boolean gives(int a, int b) {
            Person p = people.get(a);
            Person q = people.get(b);
            return a != b && p.door >= 0 && p.door == q.door && q.nobody == 0 && p.givesWayTo(q);
        }

        int givesTo(int a) {
            int bits = 0;
            for (int b = 0; b < people.size(); b++) {
                bits |= gives(a, b) ? 1 << b : 0;
            }
            return bits;
        }

        boolean may(int a) {
            return people.get(a).door >= 0 && (givesTo(a) == 0 || people.get(a).nobody > 0);
        }

        int who(int door) {
            for (int a = 0; a < people.size(); a++) {
                if (people.get(a).door == door && may(a)) {
                    return a;
                }
            }
            return -1;
        }

        int goOn() {
            int[] who = new int[doors];
            for (int d = 0; d < doors; d++) {
                who[d] = who(d);
            }
            int went = 0;
            for (int one : who) {
                if (one >= 0) {
                    went++;
                    people.get(one).door = -1;
                    people.get(one).nobody = 0;
                }
            }
            for (Person p : people) {
                p.nobody -= p.nobody > 0 ? 1 : 0;
            }
            step++;
            return went;
        }

        World ahead(int n) {
            World w = like();
            for (int i = 0; i < n; i++) {
                w.goOn();
            }
            return w;
        }

        int waiting(int door) {
            int bits = 0;
            for (int a = 0; a < people.size(); a++) {
                bits |= people.get(a).door == door ? 1 << a : 0;
            }
            return bits;
        }

        int nobodies() {
            int bits = 0;
            for (int a = 0; a < people.size(); a++) {
                bits |= people.get(a).nobody > 0 ? 1 << a : 0;
            }
            return bits;
        }

        int left(int door) {
            return Integer.bitCount(ahead(60).waiting(door));
        }

        /** Behind how many STEPS; -1: never. */
        int goes(int one) {
            World w = like();
            for (int n = 0; n <= 60; n++) {
                if (w.people.get(one).door < 0) {
                    return n;
                }
                w.goOn();
            }
            return -1;
        }

        /** Whether a path through all others of the set leads from one back to the first. */
        boolean round(int first, int at, int rest) {
            if (rest == 0) {
                return gives(at, first);
            }
            for (int b = 0; b < people.size(); b++) {
                if ((rest >> b & 1) != 0 && gives(at, b) && round(first, b, rest & ~(1 << b))) {
                    return true;
                }
            }
            return false;
        }
    }

    World now = new World();
    final List<World> acts = new ArrayList<>();
    final World[] images = new World[2];
    final int[][] rows = new int[8][];
    final int[] lanes = new int[8];
    final StringBuilder tape = new StringBuilder();
    final List<Integer> trace = new ArrayList<>();
    int fault;
    int status;

    private void act() {
        acts.add(now.like());
        if (acts.size() > 24) {
            acts.remove(0);
        }
    }

    private boolean none() {
        return now.people.isEmpty();
    }

    private boolean noPerson(int p) {
        return p < 0 || p >= now.people.size();
    }

    private boolean noDoor(int d) {
        return d < 0 || d >= now.doors;
    }

    private static boolean noFlag(int what) {
        return what != 0 && what != 1;
    }

    private int finding(int number) {
        status = number;
        return -1000010 - number;
    }

    private int fine(int answer) {
        status = 0;
        return answer;
    }

    int row(int row, int lane, int n) {
        if (row < 0 || row > 7 || lane < 0 || lane > 2 || n > 40) {
            return BAD;
        }
        if (n < 0) {
            return finding(4);
        }
        rows[row] = new int[n];
        lanes[row] = lane;
        return fine(n);
    }

    int set(int row, int i, int v) {
        if (row < 0 || row > 7) {
            return BAD;
        }
        if (rows[row] == null) {
            return finding(1);
        }
        if (i < 0 || i >= rows[row].length) {
            return finding(2);
        }
        int shift = lanes[row] == 0 ? 24 : lanes[row] == 1 ? 16 : 0;
        rows[row][i] = v << shift >> shift;
        return fine(rows[row][i]);
    }

    int copy(int a, int i, int b, int j, int n) {
        if (a < 0 || a > 7 || b < 0 || b > 7) {
            return BAD;
        }
        if (rows[a] == null || rows[b] == null) {
            return finding(1);
        }
        if (lanes[a] != lanes[b]) {
            return finding(5);
        }
        if (i < 0 || j < 0 || n < 0 || (long) i + n > rows[a].length || (long) j + n > rows[b].length) {
            return finding(2);
        }
        int[] old = rows[a].clone();
        for (int k = 0; k < n; k++) {
            rows[b][j + k] = old[i + k];
        }
        return fine(n);
    }

    int drop(int row) {
        if (row < 0 || row > 7) {
            return BAD;
        }
        if (rows[row] == null) {
            return finding(1);
        }
        int had = rows[row].length;
        rows[row] = null;
        return fine(had);
    }

    int feed(int letter) {
        if (letter < 0 || letter > 255) {
            return BAD;
        }
        if (tape.length() == 100) {
            return FULL;
        }
        tape.append((char) letter);
        return tape.length();
    }

    /** By tokens first, and then by the place of each in the text. */
    int ministry() {
        String text = tape.toString();
        tape.setLength(0);
        List<String> tokens = new ArrayList<>();
        List<Integer> places = new ArrayList<>();
        for (int at = 0; at < text.length();) {
            int end = at + 1;
            while (Character.isDigit(text.charAt(at)) && end < text.length() && Character.isDigit(text.charAt(end))) {
                end++;
            }
            tokens.add(text.substring(at, end));
            places.add(at);
            at = end;
        }
        tokens.add("");
        places.add(text.length());
        World w = new World();
        int[] numbers = new int[3];
        char sort = 0;
        for (int k = 0; k < tokens.size(); k++) {
            String token = tokens.get(k);
            int inLaw = k < 5 ? k : -1;
            int inPerson = (k - 5) % 7;
            // law: m NUMBER , NUMBER ;   person: SORT NUMBER , NUMBER , NUMBER ;
            String kind = inLaw >= 0 ? "mn,n;".substring(k, k + 1) : "pn,n,n;".substring(inPerson, inPerson + 1);
            if (token.isEmpty() && kind.equals("p") && k > 5) {
                now = w;
                acts.clear();
                return w.people.size();
            }
            boolean stands;
            if (kind.equals("n")) {
                stands = token.matches("[0-9]{1,2}");
            } else if (kind.equals("p")) {
                stands = token.matches("[csjgb]");
            } else {
                stands = token.equals(kind);
            }
            int number = 0;
            if (!stands) {
                number = 1;
            } else if (kind.equals("n")) {
                int n = Integer.parseInt(token);
                int most = k == 1 ? 4 : inPerson == 5 && inLaw < 0 ? w.doors - 1 : 9;
                int least = inLaw >= 0 ? 1 : 0;
                number = n < least || n > most ? 2 : 0;
                if (k == 1) {
                    w.doors = n;
                } else if (k == 3) {
                    w.yard = n;
                } else {
                    numbers[inPerson / 2] = n;
                }
            } else if (kind.equals("p")) {
                sort = token.charAt(0);
                number = w.people.size() == 7 ? 3 : 0;
            }
            if (number != 0) {
                fault = number;
                return -1000100 - places.get(k);
            }
            if (inLaw < 0 && inPerson == 6) {
                Person p = new Person();
                p.sort = sort;
                p.rank = numbers[0];
                p.honour = numbers[1];
                p.door = numbers[2];
                w.people.add(p);
            }
        }
        throw new IllegalStateException("the end stands nowhere else");
    }

    int fault() {
        return fault;
    }

    int undo() {
        if (acts.isEmpty()) {
            return STATE;
        }
        now = acts.remove(acts.size() - 1);
        return acts.size();
    }

    int steps(int n) {
        if (none()) {
            return STATE;
        }
        if (n < 1 || n > 24) {
            return BAD;
        }
        if (now.step + n > 999) {
            return FULL;
        }
        int went = 0;
        for (int i = 0; i < n; i++) {
            act();
            went += now.goOn();
        }
        return went;
    }

    int come(int person, int door) {
        if (noPerson(person) || noDoor(door)) {
            return BAD;
        }
        int was = now.people.get(person).door;
        if (was == door) {
            return STATE;
        }
        act();
        now.people.get(person).door = door;
        return was < 0 ? NONE : was;
    }

    int bow(int person) {
        if (noPerson(person)) {
            return BAD;
        }
        if (now.people.get(person).door < 0) {
            return STATE;
        }
        act();
        now.people.get(person).nobody = now.yard;
        return Integer.bitCount(now.nobodies());
    }

    int revise(int person, int which, int n) {
        if (noPerson(person) || noFlag(which) || n < 0 || n > 9) {
            return BAD;
        }
        act();
        Person p = now.people.get(person);
        int was = which == 0 ? p.rank : p.honour;
        if (which == 0) {
            p.rank = n;
        } else {
            p.honour = n;
        }
        return was;
    }

    int person(int person, int what) {
        if (noPerson(person) || what < 0 || what > 5) {
            return BAD;
        }
        Person p = now.people.get(person);
        int[] answers = {p.rank, p.honour, p.door < 0 ? NONE : p.door, p.nobody, now.may(person) ? 1 : 0,
            now.givesTo(person)};
        return answers[what];
    }

    int door(int door, int what) {
        if (none()) {
            return STATE;
        }
        if (noDoor(door) || noFlag(what)) {
            return BAD;
        }
        int who = now.who(door);
        return what == 0 ? now.waiting(door) : who < 0 ? NONE : who;
    }

    int ahead(int person, int n) {
        if (noPerson(person) || n < 0 || n > 60) {
            return BAD;
        }
        return now.ahead(n).people.get(person).door < 0 ? 1 : 0;
    }

    int waitAhead(int door, int n) {
        if (none()) {
            return STATE;
        }
        if (noDoor(door) || n < 0 || n > 60) {
            return BAD;
        }
        return Integer.bitCount(now.ahead(n).waiting(door));
    }

    int goes(int person) {
        if (noPerson(person)) {
            return BAD;
        }
        int goes = now.goes(person);
        return goes < 0 ? NONE : goes;
    }

    int stuck() {
        return none() ? STATE : ((1 << now.people.size()) - 1) & ~now.ahead(60).waiting(-1);
    }

    int ring(int door, int what) {
        if (none()) {
            return STATE;
        }
        if (noDoor(door) || noFlag(what)) {
            return BAD;
        }
        for (int size = 2; size <= 7; size++) {
            for (int set = 0; set < 128; set++) {
                if (Integer.bitCount(set) == size && (set & ~(now.waiting(door) & ~now.nobodies())) == 0) {
                    int first = Integer.numberOfTrailingZeros(set);
                    if (now.round(first, first, set & ~(1 << first))) {
                        return what == 0 ? size : set;
                    }
                }
            }
        }
        return NONE;
    }

    int bows(int door, int what) {
        if (none()) {
            return STATE;
        }
        if (noDoor(door) || noFlag(what)) {
            return BAD;
        }
        for (int size = 0; size <= 7; size++) {
            for (int set = 0; set < 128; set++) {
                if (Integer.bitCount(set) == size && (set & ~now.waiting(door)) == 0) {
                    World w = now.like();
                    for (int p = 0; p < w.people.size(); p++) {
                        w.people.get(p).nobody = (set >> p & 1) != 0 ? w.yard : w.people.get(p).nobody;
                    }
                    if (w.left(door) == 0) {
                        return what == 0 ? size : set;
                    }
                }
            }
        }
        return NONE;
    }

    int raise(int door) {
        if (none()) {
            return STATE;
        }
        if (noDoor(door)) {
            return BAD;
        }
        if (now.left(door) == 0) {
            return 0;
        }
        int best = NONE;
        for (int p = 0; p < now.people.size(); p++) {
            for (int rank = 0; rank <= 9; rank++) {
                int was = now.people.get(p).rank;
                World w = now.like();
                w.people.get(p).rank = rank;
                if (now.people.get(p).door == door && rank != was && w.left(door) == 0) {
                    int number = 100 * (rank > was ? rank - was : was - rank) + 10 * p + rank;
                    best = best == NONE || number < best ? number : best;
                }
            }
        }
        return best;
    }

    int third(int door, int what) {
        if (none()) {
            return STATE;
        }
        if (noDoor(door) || noFlag(what)) {
            return BAD;
        }
        int who = NONE;
        int fewest = NONE;
        for (int p = 0; p < now.people.size(); p++) {
            World w = now.like();
            w.people.get(p).door = door;
            if (now.people.get(p).door != door && (who == NONE || w.left(door) < fewest)) {
                who = p;
                fewest = w.left(door);
            }
        }
        return what == 0 ? who : fewest;
    }

    int bestDoor(int person, int what) {
        if (noPerson(person) || noFlag(what)) {
            return BAD;
        }
        if (now.people.get(person).door < 0) {
            return STATE;
        }
        int which = NONE;
        int soonest = NONE;
        for (int d = 0; d < now.doors; d++) {
            World w = now.like();
            w.people.get(person).door = d;
            int goes = w.goes(person);
            if (goes >= 0 && (which == NONE || goes < soonest)) {
                which = d;
                soonest = goes;
            }
        }
        return what == 0 ? which : soonest;
    }

    private int seenRefusal(int door, int person, int row, int i, int n) {
        if (noDoor(door) || noPerson(person) || row < 0 || row > 7 || n < 1 || n > 12) {
            return BAD;
        }
        if (rows[row] == null) {
            return finding(1);
        }
        if (i < 0 || (long) i + n > rows[row].length) {
            return finding(2);
        }
        return fine(0);
    }

    private static boolean seen(World world, int door, int[] items, int i, int n) {
        World w = world.like();
        for (int k = 0; k < n; k++) {
            if (items[i + k] != w.who(door)) {
                return false;
            }
            w.goOn();
        }
        return true;
    }

    int ranks(int door, int person, int row, int i, int n) {
        int refusal = seenRefusal(door, person, row, i, n);
        for (int rank = 0; refusal >= 0 && rank <= 9; rank++) {
            World w = now.like();
            w.people.get(person).rank = rank;
            refusal |= seen(w, door, rows[row], i, n) ? 1 << rank : 0;
        }
        return refusal;
    }

    int who(int door, int person, int row, int i, int n) {
        int refusal = seenRefusal(door, person, row, i, n);
        for (int kind = 1; refusal >= 0 && kind <= 5; kind++) {
            World w = now.like();
            w.people.get(person).sort = " csjgb".charAt(kind);
            refusal |= seen(w, door, rows[row], i, n) ? 1 << kind : 0;
        }
        return refusal;
    }

    int precedence(int door, int k) {
        if (none()) {
            return STATE;
        }
        if (noDoor(door) || k < 0) {
            return BAD;
        }
        World w = now.like();
        int gone = 0;
        for (int s = 0; s < 60; s++) {
            int who = w.who(door);
            if (who >= 0 && gone == k) {
                return who;
            }
            gone += who >= 0 ? 1 : 0;
            w.goOn();
        }
        return NONE;
    }

    int both(int what) {
        if (none()) {
            return STATE;
        }
        if (noFlag(what)) {
            return BAD;
        }
        int pairs = 0;
        int first = NONE;
        for (int a = now.people.size() - 1; a >= 0; a--) {
            for (int b = now.people.size() - 1; b > a; b--) {
                if (now.people.get(a).givesWayTo(now.people.get(b)) && now.people.get(b).givesWayTo(now.people.get(a))) {
                    pairs++;
                    first = 10 * a + b;
                }
            }
        }
        return what == 0 ? pairs : first;
    }

    /** By one after the other: carried off, or not. */
    private long cases(World w, int door, int p, int from) {
        if (from == w.people.size()) {
            return w.who(door) >= 0 ? 1 : 0;
        }
        if (w.people.get(from).door != door) {
            return cases(w, door, p, from + 1);
        }
        World without = w.like();
        without.people.get(from).door = -1;
        return p * cases(without, door, p, from + 1) + (10 - p) * cases(w, door, p, from + 1);
    }

    long faint(int door, int p, int what) {
        if (none()) {
            return STATE;
        }
        if (noDoor(door) || p < 0 || p > 10 || noFlag(what)) {
            return BAD;
        }
        long above = cases(now, door, p, 0);
        long below = 1;
        for (int i = 0; i < Integer.bitCount(now.waiting(door)); i++) {
            below *= 10;
        }
        if (above == 0) {
            return what;
        }
        for (int prime : new int[] {2, 5}) {
            while (above % prime == 0 && below % prime == 0) {
                above /= prime;
                below /= prime;
            }
        }
        return what == 0 ? above : below;
    }

    int drawn(int n, int seed, int what) {
        if (none()) {
            return STATE;
        }
        if (n < 0 || n > 60 || seed < 1 || seed > 999999 || noFlag(what)) {
            return BAD;
        }
        World w = now.like();
        long x = seed;
        int went = 0;
        for (int i = 0; i < n; i++) {
            x = x * 16807L % 2147483647L;
            Person p = w.people.get((int) (x % w.people.size()));
            if (p.door >= 0) {
                p.nobody = w.yard;
            } else {
                p.door = (int) (x % w.doors);
            }
            went += w.goOn();
        }
        return what == 0 ? went : w.people.size() - Integer.bitCount(w.waiting(-1));
    }

    int image(int k) {
        if (noFlag(k)) {
            return BAD;
        }
        if (none()) {
            return STATE;
        }
        images[k] = now.like();
        return 1;
    }

    int restore(int k) {
        if (noFlag(k)) {
            return BAD;
        }
        if (images[k] == null) {
            return STATE;
        }
        now = images[k].like();
        acts.clear();
        return 1;
    }

    int kind(int one) {
        return noPerson(one) ? BAD : " csjgb".indexOf(now.people.get(one).sort);
    }

    int as(int one, int kind) {
        if (noPerson(one) || kind < 0 || kind > 5) {
            return BAD;
        }
        int is = kind(one);
        boolean fits = kind == 0 || kind == is || kind == 1 && (is == 2 || is == 3) || kind == 4 && is == 5;
        return fits ? fine(one) : finding(3);
    }

    private int body(int number, int one) {
        trace.add(number);
        Person p = now.people.get(one);
        switch (number) {
            case 10:
                return p.rank;
            case 11:
                int ten = body(10, one);
                return ten + asked(one, 1);
            case 12:
                return -body(11, one);
            case 13:
                return body(10, one) - 100;
            case 14:
                return 2 * body(13, one);
            case 20:
                return one;
            case 21:
                return body(20, one) + p.honour;
            case 22:
                return body(21, one) - 1000;
            case 23:
                int twenty = body(20, one);
                return twenty - asked(one, 0);
            default:
                return 2 * body(21, one);
        }
    }

    private int asked(int one, int what) {
        int[][] bodies = {{0, 11, 12, 11, 13, 14}, {0, 21, 24, 22, 23, 23}};
        return body(bodies[what][kind(one)], one);
    }

    int ask(int one, int what) {
        if (noPerson(one) || noFlag(what)) {
            return BAD;
        }
        trace.clear();
        return asked(one, what);
    }

    int trace(int i) {
        return i >= 0 && i < trace.size() && i < 16 ? trace.get(i) : NONE;
    }

    int count(int what) {
        int there = 0;
        for (int[] row : rows) {
            there += row == null ? 0 : 1;
        }
        int[] counts = {there, now.doors, now.people.size(), now.step, now.waiting(-1), now.nobodies(), acts.size(),
            tape.length()};
        return what < 0 || what > 7 ? BAD : counts[what];
    }

    int status() {
        return status;
    }
}
