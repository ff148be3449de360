/**
 * People who wait for one another at the doors of a ministry; ../shared/DOC.md says what each call
 * answers.
 *
 * <p>All that a call needs is made in the constructors and used again: the calls make no object.
 */
public final class YieldDoors {
    public static final int NONE = -1000000, BAD = -1000001, STATE = -1000002, FULL = -1000003;

    private static final int BEFORE_FINDINGS = -1000010, BEFORE_FAULTS = -1000100;
    private static final int NULL = 1, PLACE = 2, NO_SUCH_KIND = 3, SIZE = 4, STORE = 5;

    private static final int MOST_ROWS = 8, MOST_ITEMS = 40, MOST_BYTES = 100;
    private static final int MOST_DOORS = 4, MOST_PEOPLE = 7, MOST_YARD = 9, MOST_RANK = 9;
    private static final int MOST_STEPS = 24, LAST_STEP = 999, MOST_ACTS = 24, MOST_IMAGES = 2;
    private static final int MOST_AHEAD = 60, MOST_SEEN = 12, MOST_SEED = 999999, MOST_TRACE = 16;

    private static final int BYTES = 0, SHORTS = 1, INTS = 2;
    private static final int ANYBODY = 0, CLERK = 1, SECRETARY = 2, JUNIOR = 3, GUEST = 4, BOWER = 5;

    /** Who stands in no DOOR's crowd, and who goes where nobody goes. */
    private static final int THROUGH = -1, NOBODY_GOES = -1;

    private final Row[] rows = new Row[MOST_ROWS];
    private final Tape tape = new Tape();
    private final Hall hall = new Hall();
    private final Acts acts = new Acts();
    private final Hall[] images = new Hall[MOST_IMAGES];
    private final Foresight foresight = new Foresight();
    private final Asking asking = new Asking();
    private int latestFault = 0;
    private int latestFinding = 0;

    public YieldDoors() {
        for (int i = 0; i < MOST_ROWS; i++) {
            rows[i] = new Row();
        }
        for (int i = 0; i < MOST_IMAGES; i++) {
            images[i] = new Hall();
        }
    }

    // ---- rows

    public int row(int row, int lane, int n) {
        if (!isRow(row) || !within(lane, BYTES, INTS) || n > MOST_ITEMS) {
            return BAD;
        }
        if (n < 0) {
            return found(SIZE);
        }
        rows[row].lay(lane, n);
        return fine(n);
    }

    public int set(int row, int i, int v) {
        if (!isRow(row)) {
            return BAD;
        }
        if (rows[row].isMissing()) {
            return found(NULL);
        }
        if (!rows[row].holds(i, 1)) {
            return found(PLACE);
        }
        return fine(rows[row].put(i, v));
    }

    public int copy(int a, int i, int b, int j, int n) {
        if (!isRow(a) || !isRow(b)) {
            return BAD;
        }
        if (rows[a].isMissing() || rows[b].isMissing()) {
            return found(NULL);
        }
        if (rows[a].lane != rows[b].lane) {
            return found(STORE);
        }
        if (!rows[a].holds(i, n) || !rows[b].holds(j, n)) {
            return found(PLACE);
        }
        System.arraycopy(rows[a].items, i, rows[b].items, j, n);
        return fine(n);
    }

    public int drop(int row) {
        if (!isRow(row)) {
            return BAD;
        }
        if (rows[row].isMissing()) {
            return found(NULL);
        }
        return fine(rows[row].clear());
    }

    // ---- what is told

    public int feed(int letter) {
        if (!within(letter, 0, 255)) {
            return BAD;
        }
        return tape.add(letter) ? tape.length : FULL;
    }

    public int ministry() {
        Hall draft = foresight.trial;
        boolean read = tape.readInto(draft);
        tape.length = 0;
        if (!read) {
            latestFault = tape.fault;
            return BEFORE_FAULTS - tape.place;
        }
        hall.become(draft);
        acts.forget();
        return hall.people;
    }

    public int fault() {
        return latestFault;
    }

    public int undo() {
        if (acts.kept == 0) {
            return STATE;
        }
        acts.takeBack(hall);
        return acts.kept;
    }

    // ---- what is done

    public int steps(int n) {
        int refusal = refusal(within(n, 1, MOST_STEPS));
        if (refusal != 0) {
            return refusal;
        }
        if (hall.step + n > LAST_STEP) {
            return FULL;
        }
        Law law = foresight.lawOf(hall);
        int went = 0;
        for (int i = 0; i < n; i++) {
            acts.keep(hall);
            went += hall.pass(law);
        }
        return went;
    }

    public int come(int person, int door) {
        if (!isPerson(person) || !isDoor(door)) {
            return BAD;
        }
        int from = hall.doorOf[person];
        if (from == door) {
            return STATE;
        }
        acts.keep(hall);
        hall.doorOf[person] = door;
        return orNone(from);
    }

    public int bow(int person) {
        if (!isPerson(person)) {
            return BAD;
        }
        if (hall.doorOf[person] == THROUGH) {
            return STATE;
        }
        acts.keep(hall);
        hall.nobodyFor[person] = hall.yard;
        return Integer.bitCount(hall.nobodies());
    }

    public int revise(int person, int which, int n) {
        if (!isPerson(person) || !within(which, 0, 1) || !within(n, 0, MOST_RANK)) {
            return BAD;
        }
        acts.keep(hall);
        int[] revised = which == 0 ? hall.rankOf : hall.honourOf;
        int was = revised[person];
        revised[person] = n;
        return was;
    }

    public int person(int person, int what) {
        if (!isPerson(person)) {
            return BAD;
        }
        int at = hall.doorOf[person];
        switch (what) {
            case 0:
                return hall.rankOf[person];
            case 1:
                return hall.honourOf[person];
            case 2:
                return orNone(at);
            case 3:
                return hall.nobodyFor[person];
            case 4:
                return at != THROUGH
                        && foresight.lawOf(hall).lets(person, hall.waitingAt(at), hall.nobodies()) ? 1 : 0;
            case 5:
                return at == THROUGH ? 0
                        : foresight.lawOf(hall).yielded(person, hall.waitingAt(at), hall.nobodies());
            default:
                return BAD;
        }
    }

    public int door(int door, int what) {
        int refusal = refusal(isDoor(door) && within(what, 0, 1));
        if (refusal != 0) {
            return refusal;
        }
        int waiting = hall.waitingAt(door);
        return what == 0 ? waiting : orNone(foresight.lawOf(hall).first(waiting, hall.nobodies()));
    }

    // ---- foretold

    public int ahead(int person, int n) {
        if (!isPerson(person) || !within(n, 0, MOST_AHEAD)) {
            return BAD;
        }
        int when = foresight.whenThrough(hall, person);
        return when >= 0 && when <= n ? 1 : 0;
    }

    public int waitAhead(int door, int n) {
        int refusal = refusal(isDoor(door) && within(n, 0, MOST_AHEAD));
        if (refusal != 0) {
            return refusal;
        }
        Line line = foresight.lineAt(hall, door);
        return Integer.bitCount(hall.waitingAt(door)) - Math.min(n, line.gone);
    }

    public int goes(int person) {
        return isPerson(person) ? orNone(foresight.whenThrough(hall, person)) : BAD;
    }

    public int stuck() {
        if (hall.people == 0) {
            return STATE;
        }
        int stuck = 0;
        for (int door = 0; door < hall.doors; door++) {
            stuck |= foresight.lineAt(hall, door).left;
        }
        return stuck;
    }

    public int ring(int door, int what) {
        int refusal = refusal(isDoor(door) && within(what, 0, 1));
        if (refusal != 0) {
            return refusal;
        }
        return setAnswer(foresight.leastRing(hall, door), what);
    }

    public int bows(int door, int what) {
        int refusal = refusal(isDoor(door) && within(what, 0, 1));
        if (refusal != 0) {
            return refusal;
        }
        return setAnswer(foresight.fewestBows(hall, door), what);
    }

    public int raise(int door) {
        int refusal = refusal(isDoor(door));
        return refusal != 0 ? refusal : orNone(foresight.leastRaise(hall, door));
    }

    public int third(int door, int what) {
        int refusal = refusal(isDoor(door) && within(what, 0, 1));
        if (refusal != 0) {
            return refusal;
        }
        int third = foresight.bestThird(hall, door);
        return what == 0 ? orNone(third) : orNone(foresight.leftWith(hall, door, third));
    }

    public int bestDoor(int person, int what) {
        if (!isPerson(person) || !within(what, 0, 1)) {
            return BAD;
        }
        if (hall.doorOf[person] == THROUGH) {
            return STATE;
        }
        int best = foresight.soonestDoor(hall, person);
        return what == 0 ? orNone(best) : orNone(foresight.whenAt(hall, person, best));
    }

    public int ranks(int door, int person, int row, int i, int n) {
        int trouble = seenTrouble(door, person, row, i, n);
        return trouble != 0 ? trouble : fine(foresight.ranksSeen(hall, door, person, rows[row], i, n));
    }

    public int who(int door, int person, int row, int i, int n) {
        int trouble = seenTrouble(door, person, row, i, n);
        return trouble != 0 ? trouble : fine(foresight.kindsSeen(hall, door, person, rows[row], i, n));
    }

    public int precedence(int door, int k) {
        int refusal = refusal(isDoor(door) && k >= 0);
        return refusal != 0 ? refusal : orNone(foresight.lineAt(hall, door).goingIn(k));
    }

    public int both(int what) {
        int refusal = refusal(within(what, 0, 1));
        if (refusal != 0) {
            return refusal;
        }
        return what == 0 ? foresight.pairs(hall) : orNone(foresight.firstPair(hall));
    }

    public long faint(int door, int p, int what) {
        int refusal = refusal(isDoor(door) && within(p, 0, 10) && within(what, 0, 1));
        if (refusal != 0) {
            return refusal;
        }
        long cases = foresight.casesOfGoing(hall, door, p);
        long all = 1;
        int waiting = Integer.bitCount(hall.waitingAt(door));
        for (int i = 0; i < waiting; i++) {
            all *= 10;
        }
        long shared = greatestDivisor(all, cases);
        return (what == 0 ? cases : all) / shared;
    }

    public int drawn(int n, int seed, int what) {
        int refusal = refusal(within(n, 0, MOST_AHEAD) && within(seed, 1, MOST_SEED) && within(what, 0, 1));
        if (refusal != 0) {
            return refusal;
        }
        int went = foresight.daysByDraws(hall, n, seed);
        return what == 0 ? went : foresight.trial.people - Integer.bitCount(foresight.trial.waitingAt(THROUGH));
    }

    public int image(int k) {
        if (!within(k, 0, MOST_IMAGES - 1)) {
            return BAD;
        }
        if (hall.people == 0) {
            return STATE;
        }
        images[k].become(hall);
        return 1;
    }

    public int restore(int k) {
        if (!within(k, 0, MOST_IMAGES - 1)) {
            return BAD;
        }
        if (images[k].people == 0) {
            return STATE;
        }
        hall.become(images[k]);
        acts.forget();
        return 1;
    }

    // ---- asked

    public int kind(int one) {
        return isPerson(one) ? hall.kindOf[one] : BAD;
    }

    public int as(int one, int kind) {
        if (!isPerson(one) || !within(kind, ANYBODY, BOWER)) {
            return BAD;
        }
        return Hall.isOneOf(hall.kindOf[one], kind) ? fine(one) : found(NO_SUCH_KIND);
    }

    public int ask(int one, int what) {
        if (!isPerson(one) || !within(what, 0, 1)) {
            return BAD;
        }
        asking.begin();
        return what == 0 ? asking.sizeOf(hall, one) : asking.markOf(hall, one);
    }

    public int trace(int i) {
        return within(i, 0, asking.length - 1) ? asking.numbers[i] : NONE;
    }

    public int count(int what) {
        switch (what) {
            case 0:
                return rowsThere();
            case 1:
                return hall.doors;
            case 2:
                return hall.people;
            case 3:
                return hall.step;
            case 4:
                return hall.waitingAt(THROUGH);
            case 5:
                return hall.nobodies();
            case 6:
                return acts.kept;
            case 7:
                return tape.length;
            default:
                return BAD;
        }
    }

    public int status() {
        return latestFinding;
    }

    // ---- what several calls share

    private static boolean within(int n, int least, int most) {
        return n >= least && n <= most;
    }

    private static boolean isRow(int row) {
        return within(row, 0, MOST_ROWS - 1);
    }

    private boolean isPerson(int person) {
        return within(person, 0, hall.people - 1);
    }

    private boolean isDoor(int door) {
        return within(door, 0, hall.doors - 1);
    }

    /** For the calls whose STATE comes ahead of their BAD; 0: not refused. */
    private int refusal(boolean asTold) {
        if (hall.people == 0) {
            return STATE;
        }
        return asTold ? 0 : BAD;
    }

    private int found(int finding) {
        latestFinding = finding;
        return BEFORE_FINDINGS - finding;
    }

    private int fine(int answer) {
        latestFinding = 0;
        return answer;
    }

    /** Inside, what there is none of is below 0, as no such number of the document is. */
    private static int orNone(int number) {
        return number < 0 ? NONE : number;
    }

    private static int setAnswer(int set, int what) {
        if (set < 0) {
            return NONE;
        }
        return what == 0 ? Integer.bitCount(set) : set;
    }

    /** BAD, or the FINDING of a call that tells what was SEEN by a ROW; 0: neither. */
    private int seenTrouble(int door, int person, int row, int i, int n) {
        if (!isDoor(door) || !isPerson(person) || !isRow(row) || !within(n, 1, MOST_SEEN)) {
            return BAD;
        }
        if (rows[row].isMissing()) {
            return found(NULL);
        }
        return rows[row].holds(i, n) ? 0 : found(PLACE);
    }

    private int rowsThere() {
        int there = 0;
        for (int i = 0; i < MOST_ROWS; i++) {
            if (!rows[i].isMissing()) {
                there++;
            }
        }
        return there;
    }

    /** The first is above 0, so that what comes out can divide. */
    private static long greatestDivisor(long above, long other) {
        long a = above;
        long b = other;
        for (int i = 0; i < 100 && b != 0; i++) {
            long rest = a % b;
            a = b;
            b = rest;
        }
        return a < 1 ? 1 : a;
    }

    /** A ROW; its items stay when it goes missing, to be used again. */
    private static final class Row {
        private static final int MISSING = -1;

        final int[] items = new int[MOST_ITEMS];
        int lane = BYTES;
        int length = MISSING;

        boolean isMissing() {
            return length == MISSING;
        }

        void lay(int newLane, int n) {
            lane = newLane;
            length = n;
            for (int i = 0; i < MOST_ITEMS; i++) {
                items[i] = 0;
            }
        }

        /** By what is left behind i, as i and n together may be more than an int. */
        boolean holds(int i, int n) {
            return i >= 0 && n >= 0 && n <= length - i;
        }

        int put(int i, int v) {
            items[i] = lane == BYTES ? (byte) v : lane == SHORTS ? (short) v : v;
            return items[i];
        }

        int clear() {
            int had = length;
            length = MISSING;
            return had;
        }
    }

    /** The tape, and how it is read. */
    private static final class Tape {
        private static final int END = -1, FAULTY = -1;
        private static final int CANNOT_STAND = 1, NOT_AS_TOLD = 2, NO_ROOM = 3;

        private final int[] bytes = new int[MOST_BYTES];
        int length = 0;
        /** Where the reading is; behind a FAULT: the FAULT's place. */
        int place = 0;
        int fault = 0;

        boolean add(int letter) {
            if (length >= MOST_BYTES) {
                return false;
            }
            bytes[length] = letter;
            length++;
            return true;
        }

        /** False, with place and fault, if the tape has a FAULT; what the draft is then is free. */
        boolean readInto(Hall draft) {
            place = 0;
            return readLaw(draft) && readPeople(draft);
        }

        private boolean readLaw(Hall draft) {
            if (!takes('m')) {
                return false;
            }
            int doors = numberBefore(1, MOST_DOORS, ',');
            if (doors == FAULTY) {
                return false;
            }
            int yard = numberBefore(1, MOST_YARD, ';');
            if (yard == FAULTY) {
                return false;
            }
            draft.begin(doors, yard);
            return true;
        }

        private boolean readPeople(Hall draft) {
            for (int i = 0; i <= MOST_PEOPLE; i++) {
                if (!readPerson(draft)) {
                    return false;
                }
                if (place >= length) {
                    return true;
                }
            }
            return false;
        }

        private boolean readPerson(Hall draft) {
            int kind = kindTold(here());
            if (kind == ANYBODY) {
                return fails(CANNOT_STAND);
            }
            if (draft.people >= MOST_PEOPLE) {
                return fails(NO_ROOM);
            }
            place++;
            int rank = numberBefore(0, MOST_RANK, ',');
            if (rank == FAULTY) {
                return false;
            }
            int honour = numberBefore(0, MOST_RANK, ',');
            if (honour == FAULTY) {
                return false;
            }
            int door = numberBefore(0, draft.doors - 1, ';');
            if (door == FAULTY) {
                return false;
            }
            draft.admit(kind, rank, honour, door);
            return true;
        }

        private static int kindTold(int letter) {
            switch (letter) {
                case 'c':
                    return CLERK;
                case 's':
                    return SECRETARY;
                case 'j':
                    return JUNIOR;
                case 'g':
                    return GUEST;
                case 'b':
                    return BOWER;
                default:
                    return ANYBODY;
            }
        }

        private int numberBefore(int least, int most, char sign) {
            int figures = 0;
            int number = 0;
            for (int at = place; at < length && figures < 3 && isFigure(bytes[at]); at++) {
                number = number * 10 + (bytes[at] - '0');
                figures++;
            }
            if (figures == 0 || figures > 2) {
                fails(CANNOT_STAND);
                return FAULTY;
            }
            if (!within(number, least, most)) {
                fails(NOT_AS_TOLD);
                return FAULTY;
            }
            place += figures;
            return takes(sign) ? number : FAULTY;
        }

        private boolean takes(char sign) {
            if (here() != sign) {
                return fails(CANNOT_STAND);
            }
            place++;
            return true;
        }

        private int here() {
            return place < length ? bytes[place] : END;
        }

        private static boolean isFigure(int letter) {
            return letter >= '0' && letter <= '9';
        }

        private boolean fails(int number) {
            fault = number;
            return false;
        }
    }

    /** A MINISTRY as it is at one time; without PEOPLE: there is none. */
    private static final class Hall {
        /** For each KIND the bits of the KINDS that it is, its own among them. */
        private static final int[] KINDS_OF = {1, 3, 7, 11, 17, 49};

        int doors = 0;
        int yard = 0;
        int people = 0;
        int step = 0;
        final int[] kindOf = new int[MOST_PEOPLE];
        final int[] rankOf = new int[MOST_PEOPLE];
        final int[] honourOf = new int[MOST_PEOPLE];
        final int[] doorOf = new int[MOST_PEOPLE];
        final int[] nobodyFor = new int[MOST_PEOPLE];

        static boolean isOneOf(int kind, int asked) {
            return within(kind, ANYBODY, BOWER) && (KINDS_OF[kind] >> asked & 1) != 0;
        }

        void become(Hall other) {
            doors = other.doors;
            yard = other.yard;
            people = other.people;
            step = other.step;
            System.arraycopy(other.kindOf, 0, kindOf, 0, MOST_PEOPLE);
            System.arraycopy(other.rankOf, 0, rankOf, 0, MOST_PEOPLE);
            System.arraycopy(other.honourOf, 0, honourOf, 0, MOST_PEOPLE);
            System.arraycopy(other.doorOf, 0, doorOf, 0, MOST_PEOPLE);
            System.arraycopy(other.nobodyFor, 0, nobodyFor, 0, MOST_PEOPLE);
        }

        void begin(int newDoors, int newYard) {
            doors = newDoors;
            yard = newYard;
            people = 0;
            step = 0;
        }

        void admit(int kind, int rank, int honour, int door) {
            if (people >= MOST_PEOPLE) {
                return;
            }
            kindOf[people] = kind;
            rankOf[people] = rank;
            honourOf[people] = honour;
            doorOf[people] = door;
            nobodyFor[people] = 0;
            people++;
        }

        /** Bits; at THROUGH: who is THROUGH. */
        int waitingAt(int door) {
            int waiting = 0;
            for (int one = 0; one < people; one++) {
                if (doorOf[one] == door) {
                    waiting |= 1 << one;
                }
            }
            return waiting;
        }

        int nobodies() {
            int nobodies = 0;
            for (int one = 0; one < people; one++) {
                if (nobodyFor[one] > 0) {
                    nobodies |= 1 << one;
                }
            }
            return nobodies;
        }

        boolean yields(int one, int other) {
            switch (kindOf[one]) {
                case CLERK:
                    return rankOf[other] > rankOf[one];
                case SECRETARY:
                    return rankOf[other] >= rankOf[one];
                case JUNIOR:
                    return true;
                case BOWER:
                    return honourOf[other] > honourOf[one];
                default:
                    return false;
            }
        }

        /** A STEP, by the law of these PEOPLE: how many went. */
        int pass(Law law) {
            int nobodies = nobodies();
            int went = 0;
            for (int door = 0; door < doors; door++) {
                int one = law.first(waitingAt(door), nobodies);
                if (one != NOBODY_GOES) {
                    doorOf[one] = THROUGH;
                    nobodyFor[one] = 0;
                    went++;
                }
            }
            for (int one = 0; one < people; one++) {
                nobodyFor[one] = Math.max(0, nobodyFor[one] - 1);
            }
            step++;
            return went;
        }
    }

    /** The ACTS that can be undone, each as the MINISTRY ahead of it, going round in one array. */
    private static final class Acts {
        private final Hall[] before = new Hall[MOST_ACTS];
        private int next = 0;
        int kept = 0;

        Acts() {
            for (int i = 0; i < MOST_ACTS; i++) {
                before[i] = new Hall();
            }
        }

        void keep(Hall hall) {
            before[next].become(hall);
            next = (next + 1) % MOST_ACTS;
            kept = Math.min(MOST_ACTS, kept + 1);
        }

        void takeBack(Hall hall) {
            if (kept == 0) {
                return;
            }
            next = (next + MOST_ACTS - 1) % MOST_ACTS;
            kept--;
            hall.become(before[next]);
        }

        void forget() {
            kept = 0;
        }
    }

    /** To whom each gives way, were all of them to WAIT at one DOOR. */
    private static final class Law {
        /** Nobody has a bit of his own, so that nobody gives way to himself. */
        final int[] yieldsTo = new int[MOST_PEOPLE];

        void read(Hall hall) {
            for (int one = 0; one < MOST_PEOPLE; one++) {
                yieldsTo[one] = 0;
                for (int other = 0; one < hall.people && other < hall.people; other++) {
                    if (one != other && hall.yields(one, other)) {
                        yieldsTo[one] |= 1 << other;
                    }
                }
            }
        }

        int yielded(int one, int waiting, int nobodies) {
            return yieldsTo[one] & waiting & ~nobodies;
        }

        boolean lets(int one, int waiting, int nobodies) {
            return (nobodies >> one & 1) != 0 || (yieldsTo[one] & waiting & ~nobodies) == 0;
        }

        int first(int waiting, int nobodies) {
            for (int one = 0; one < MOST_PEOPLE; one++) {
                if ((waiting >> one & 1) != 0 && lets(one, waiting, nobodies)) {
                    return one;
                }
            }
            return NOBODY_GOES;
        }

        /** Whether each of a set gives way to one of the set. */
        boolean holdsFast(int set) {
            for (int one = 0; one < MOST_PEOPLE; one++) {
                if ((set >> one & 1) != 0 && (yieldsTo[one] & set) == 0) {
                    return false;
                }
            }
            return true;
        }
    }

    /** Who goes at one DOOR in the STEPS from now on. */
    private static final class Line {
        final int[] nobodyFor = new int[MOST_PEOPLE];
        private final int[] going = new int[MOST_PEOPLE];
        int gone = 0;
        int left = 0;

        void readNobodies(Hall hall) {
            System.arraycopy(hall.nobodyFor, 0, nobodyFor, 0, MOST_PEOPLE);
        }

        /**
         * Ends at the first STEP in which nobody goes, for all stays so: who is NOBODY would go, so
         * there is none, and no one's time runs out. As one goes in each STEP before, 60 STEPS are
         * never all needed.
         */
        void foretell(Law law, int waiting) {
            left = waiting;
            gone = 0;
            for (int step = 0; step < MOST_PEOPLE; step++) {
                int one = law.first(left, nobodiesIn(step));
                if (one == NOBODY_GOES) {
                    return;
                }
                going[step] = one;
                gone++;
                left &= ~(1 << one);
            }
        }

        private int nobodiesIn(int step) {
            int nobodies = 0;
            for (int one = 0; one < MOST_PEOPLE; one++) {
                if (nobodyFor[one] > step) {
                    nobodies |= 1 << one;
                }
            }
            return nobodies;
        }

        int goingIn(int step) {
            return step >= 0 && step < gone && step < MOST_PEOPLE ? going[step] : NOBODY_GOES;
        }

        /** Behind how many STEPS one has gone; below 0: never. */
        int whenGone(int one) {
            for (int step = 0; step < gone; step++) {
                if (goingIn(step) == one) {
                    return step + 1;
                }
            }
            return -1;
        }
    }

    /** What is foretold of a hall, that stays as it is; of what there is none, -1. */
    private static final class Foresight {
        private static final int SETS = 1 << MOST_PEOPLE;
        private static final long FACTOR = 16807, MODULUS = 2147483647;

        /** A hall to try things in, and a draft of one that is read. */
        final Hall trial = new Hall();
        private final Law law = new Law();
        private final Line line = new Line();

        Law lawOf(Hall hall) {
            law.read(hall);
            return law;
        }

        Line lineAt(Hall hall, int door) {
            return lineOf(hall, hall.waitingAt(door));
        }

        private Line lineOf(Hall hall, int waiting) {
            law.read(hall);
            line.readNobodies(hall);
            line.foretell(law, waiting);
            return line;
        }

        int whenThrough(Hall hall, int one) {
            int at = hall.doorOf[one];
            return at == THROUGH ? 0 : lineAt(hall, at).whenGone(one);
        }

        /** Were one to come to a DOOR now, or where he WAITS. */
        int whenAt(Hall hall, int one, int door) {
            return door < 0 ? -1 : lineOf(hall, hall.waitingAt(door) | 1 << one).whenGone(one);
        }

        int soonestDoor(Hall hall, int one) {
            int best = -1;
            int soonest = MOST_AHEAD + 1;
            for (int door = 0; door < hall.doors; door++) {
                int when = whenAt(hall, one, door);
                if (when >= 0 && when < soonest) {
                    best = door;
                    soonest = when;
                }
            }
            return best;
        }

        int leftWith(Hall hall, int door, int one) {
            return one < 0 ? -1 : Integer.bitCount(lineOf(hall, hall.waitingAt(door) | 1 << one).left);
        }

        int bestThird(Hall hall, int door) {
            int best = -1;
            int fewest = MOST_PEOPLE + 1;
            for (int one = 0; one < hall.people; one++) {
                if (hall.doorOf[one] != door) {
                    int left = leftWith(hall, door, one);
                    if (left < fewest) {
                        best = one;
                        fewest = left;
                    }
                }
            }
            return best;
        }

        /**
         * A set each of whom gives way to one of it has a ring in it, and a ring is such a set: so
         * the smallest such sets are the smallest rings.
         */
        int leastRing(Hall hall, int door) {
            law.read(hall);
            int held = hall.waitingAt(door) & ~hall.nobodies();
            int best = -1;
            for (int set = 1; set < SETS; set++) {
                if ((set & ~held) == 0 && isSmaller(set, best) && law.holdsFast(set)) {
                    best = set;
                }
            }
            return best;
        }

        int fewestBows(Hall hall, int door) {
            law.read(hall);
            int waiting = hall.waitingAt(door);
            int best = -1;
            for (int set = 0; set < SETS; set++) {
                if ((set & ~waiting) == 0 && isSmaller(set, best) && clearsIfBow(hall, waiting, set)) {
                    best = set;
                }
            }
            return best;
        }

        private static boolean isSmaller(int set, int best) {
            return best < 0 || Integer.bitCount(set) < Integer.bitCount(best);
        }

        private boolean clearsIfBow(Hall hall, int waiting, int set) {
            line.readNobodies(hall);
            for (int one = 0; one < hall.people; one++) {
                if ((set >> one & 1) != 0) {
                    line.nobodyFor[one] = hall.yard;
                }
            }
            line.foretell(law, waiting);
            return line.left == 0;
        }

        int leastRaise(Hall hall, int door) {
            if (lineAt(hall, door).left == 0) {
                return 0;
            }
            int best = -1;
            trial.become(hall);
            for (int one = 0; one < hall.people; one++) {
                if (hall.doorOf[one] == door) {
                    int least = leastRaiseOf(hall, door, one);
                    if (least >= 0 && (best < 0 || least < best)) {
                        best = least;
                    }
                }
            }
            return best;
        }

        /** The trial is like the hall, ahead and behind. */
        private int leastRaiseOf(Hall hall, int door, int one) {
            int was = hall.rankOf[one];
            int best = -1;
            for (int rank = 0; rank <= MOST_RANK; rank++) {
                int number = 100 * Math.abs(rank - was) + 10 * one + rank;
                if (rank != was && (best < 0 || number < best)) {
                    trial.rankOf[one] = rank;
                    if (lineOf(trial, trial.waitingAt(door)).left == 0) {
                        best = number;
                    }
                }
            }
            trial.rankOf[one] = was;
            return best;
        }

        int ranksSeen(Hall hall, int door, int one, Row row, int i, int n) {
            int ranks = 0;
            trial.become(hall);
            for (int rank = 0; rank <= MOST_RANK; rank++) {
                trial.rankOf[one] = rank;
                if (isSeen(door, row, i, n)) {
                    ranks |= 1 << rank;
                }
            }
            return ranks;
        }

        int kindsSeen(Hall hall, int door, int one, Row row, int i, int n) {
            int kinds = 0;
            trial.become(hall);
            for (int kind = CLERK; kind <= BOWER; kind++) {
                trial.kindOf[one] = kind;
                if (isSeen(door, row, i, n)) {
                    kinds |= 1 << kind;
                }
            }
            return kinds;
        }

        private boolean isSeen(int door, Row row, int i, int n) {
            lineOf(trial, trial.waitingAt(door));
            for (int step = 0; step < n; step++) {
                if (!row.holds(i + step, 1) || row.items[i + step] != line.goingIn(step)) {
                    return false;
                }
            }
            return true;
        }

        int pairs(Hall hall) {
            int pairs = 0;
            for (int lesser = 0; lesser < hall.people; lesser++) {
                for (int greater = lesser + 1; greater < hall.people; greater++) {
                    if (isPair(hall, lesser, greater)) {
                        pairs++;
                    }
                }
            }
            return pairs;
        }

        private static boolean isPair(Hall hall, int one, int other) {
            return hall.yields(one, other) && hall.yields(other, one);
        }

        int firstPair(Hall hall) {
            for (int lesser = 0; lesser < hall.people; lesser++) {
                for (int greater = lesser + 1; greater < hall.people; greater++) {
                    if (isPair(hall, lesser, greater)) {
                        return 10 * lesser + greater;
                    }
                }
            }
            return -1;
        }

        /** In how many of all cases, that are 10 for each who WAITS, somebody goes. */
        long casesOfGoing(Hall hall, int door, int p) {
            law.read(hall);
            int waiting = hall.waitingAt(door);
            int nobodies = hall.nobodies();
            long cases = 0;
            for (int staying = 1; staying < SETS; staying++) {
                if ((staying & ~waiting) == 0 && law.first(staying, nobodies) != NOBODY_GOES) {
                    cases += casesOf(waiting, staying, p);
                }
            }
            return cases;
        }

        private static long casesOf(int waiting, int staying, int p) {
            long cases = 1;
            for (int one = 0; one < MOST_PEOPLE; one++) {
                if ((waiting >> one & 1) != 0) {
                    cases *= (staying >> one & 1) != 0 ? 10 - p : p;
                }
            }
            return cases;
        }

        /** How many went; the trial is the hall behind these days. */
        int daysByDraws(Hall hall, int n, int seed) {
            trial.become(hall);
            law.read(trial);
            long x = seed;
            int went = 0;
            for (int i = 0; i < n; i++) {
                x = x * FACTOR % MODULUS;
                draw(x);
                went += trial.pass(law);
            }
            return went;
        }

        private void draw(long x) {
            if (trial.people < 1 || trial.doors < 1) {
                return;
            }
            int one = (int) (x % trial.people);
            if (one < 0 || one >= MOST_PEOPLE) {
                return;
            }
            if (trial.doorOf[one] == THROUGH) {
                trial.doorOf[one] = (int) (x % trial.doors);
            } else {
                trial.nobodyFor[one] = trial.yard;
            }
        }
    }

    /** The ASKS and THE TRACE. A BODY asks only of its own KINDS, so that no ask comes round again. */
    private static final class Asking {
        final int[] numbers = new int[MOST_TRACE];
        int length = 0;

        void begin() {
            length = 0;
        }

        private void leave(int number) {
            if (length < MOST_TRACE) {
                numbers[length] = number;
                length++;
            }
        }

        int sizeOf(Hall hall, int one) {
            switch (hall.kindOf[one]) {
                case CLERK:
                case JUNIOR:
                    return size11(hall, one);
                case SECRETARY:
                    leave(12);
                    return 0 - size11(hall, one);
                default:
                    return guestSize(hall, one);
            }
        }

        int markOf(Hall hall, int one) {
            return Hall.isOneOf(hall.kindOf[one], CLERK) ? clerkMark(hall, one) : mark23(hall, one);
        }

        private int guestSize(Hall hall, int one) {
            if (hall.kindOf[one] != BOWER) {
                return size13(hall, one);
            }
            leave(14);
            return size13(hall, one) * 2;
        }

        private int clerkMark(Hall hall, int one) {
            switch (hall.kindOf[one]) {
                case JUNIOR:
                    leave(22);
                    return mark21(hall, one) - 1000;
                case SECRETARY:
                    leave(24);
                    return mark21(hall, one) * 2;
                default:
                    return mark21(hall, one);
            }
        }

        private int size10(Hall hall, int one) {
            leave(10);
            return hall.rankOf[one];
        }

        private int size11(Hall hall, int one) {
            leave(11);
            int lent = size10(hall, one);
            return lent + clerkMark(hall, one);
        }

        private int size13(Hall hall, int one) {
            leave(13);
            return size10(hall, one) - 100;
        }

        private int mark20(int one) {
            leave(20);
            return one;
        }

        private int mark21(Hall hall, int one) {
            leave(21);
            return mark20(one) + hall.honourOf[one];
        }

        private int mark23(Hall hall, int one) {
            leave(23);
            int lent = mark20(one);
            return lent - guestSize(hall, one);
        }
    }
}
