import java.util.Arrays;

/** A lift that stops only for an exchange. What each call promises stands in DOC.md, under the call's name. */
public final class LiftExchange {
    public static final int UNKNOWN = -1, BAD = -2, LATE = -3, FULL = -4, NONE = -9;

    private static final int LEAST_FLOORS = 2;
    private static final int MOST_FLOORS = 6;
    private static final int MOST_RIDERS = 4;
    private static final int MOST_STRANGERS = 2;
    private static final int MOST_PEOPLE = MOST_RIDERS + MOST_STRANGERS;
    private static final int RIDER_BITS = (1 << MOST_RIDERS) - 1;
    private static final int STRANGER_BITS = (1 << MOST_PEOPLE) - 1 - RIDER_BITS;

    private static final int NEAREST = 0, FULLEST = 1, TURNS = 2;
    private static final int TOLD_INSIDE = 100, TOLD_DONE = 200;
    private static final int MOST_BYTES_A_CALL = 8;
    private static final int MOST_TENTHS = 10;
    private static final int SLOTS = 2;

    private final Text text = new Text();
    private final Reader reader = new Reader();
    private final Ride draft = new Ride();
    private final Ride ride = new Ride();
    private final Ride[] kept = new Ride[SLOTS];
    private final Search search = new Search();
    private final Exchanges exchanges = new Exchanges();
    private final House trial = new House();
    private final Sightings sightings = new Sightings();
    private final Chances chances = new Chances();
    /** Whether the search holds all that can come of how all is now. */
    private boolean searched = false;

    public LiftExchange() {
    }

    // ---- houses

    public int write(int n, long v) {
        if (n < 1 || n > MOST_BYTES_A_CALL) {
            return BAD;
        }
        if (!text.hasRoomFor(n)) {
            return FULL;
        }
        for (int left = n - 1; left >= 0; left--) {
            text.append((int) (v >> 8 * left & 255));
        }
        return text.size();
    }

    public int wipe() {
        int was = text.size();
        text.clear();
        return was;
    }

    public int fault() {
        return reader.read(text, draft);
    }

    public int house() {
        if (reader.read(text, draft) != NONE) {
            return LATE;
        }
        ride.copyFrom(draft);
        searched = false;
        sightings.clear();
        chances.reset();
        return ride.house.people();
    }

    public int about(int what) {
        switch (what) {
            case 0: return ride.house.floors;
            case 1: return ride.house.riders;
            case 2: return ride.house.strangers;
            case 3: return Integer.bitCount(State.inside(ride.state));
            case 4: return Integer.bitCount(State.done(ride.state));
            case 5: return ride.hoist();
            case 6: return ride.size();
            case 7: return ride.flights();
            case 8: return text.size();
            case 9: return sightings.size();
            default: return BAD;
        }
    }

    public int where(int who) {
        return ride.house.hasPerson(who) ? ride.placeOf(who) : UNKNOWN;
    }

    public int wants(int who) {
        if (!ride.house.hasPerson(who)) {
            return UNKNOWN;
        }
        return who < MOST_RIDERS ? ride.house.wantOf(who) : NONE;
    }

    // ---- halts

    public int may(int floor, boolean out) {
        if (!ride.house.hasFloor(floor)) {
            return UNKNOWN;
        }
        return out ? ride.mayLeave(floor) : ride.mayEnter(floor);
    }

    public int choices(int floor) {
        if (!ride.house.hasFloor(floor)) {
            return UNKNOWN;
        }
        int count = 0;
        exchanges.begin(ride.mayLeave(floor), ride.mayEnter(floor));
        while (count < Exchanges.MOST && exchanges.next()) {
            count++;
        }
        return count;
    }

    public int halt(int floor, int out, int in) {
        if (!ride.house.hasFloor(floor)) {
            return UNKNOWN;
        }
        if (!ride.allows(floor, out, in)) {
            return BAD;
        }
        if (ride.isFull()) {
            return FULL;
        }
        makeHalt(floor, out, in);
        return Integer.bitCount(out);
    }

    private void makeHalt(int floor, int out, int in) {
        ride.add(floor, out, in);
        searched = false;
    }

    public int back() {
        if (ride.size() == 0) {
            return LATE;
        }
        ride.takeBack();
        searched = false;
        return ride.size();
    }

    public int made(int i, int what) {
        if (!Halt.tells(what)) {
            return BAD;
        }
        return i >= 0 && i < ride.size() ? Halt.told(ride.haltAt(i), what) : NONE;
    }

    // ---- whom it can bring

    public int reached() {
        searchAll();
        return search.size();
    }

    public int fewest(int riders) {
        if (!ride.house.hasRiders(riders)) {
            return BAD;
        }
        searchAll();
        return search.haltsTo(search.firstWith(riders));
    }

    public int plan(int riders, int i, int what) {
        if (!ride.house.hasRiders(riders) || !Halt.tells(what)) {
            return BAD;
        }
        searchAll();
        int halt = search.haltOnWay(search.firstWith(riders), i);
        return halt == NONE ? NONE : Halt.told(halt, what);
    }

    public int never() {
        searchAll();
        return ride.house.riderBits() & ~search.everDone();
    }

    /** Searches only where something changed since the last time: rows of questions come about one state. */
    private void searchAll() {
        if (!searched) {
            search.explore(ride.house, ride.state, Search.NOTHING_IS_ENOUGH);
            searched = true;
        }
    }

    public int hire() {
        searchAll();
        if (search.firstWith(ride.house.riderBits()) != NONE) {
            return 0;
        }
        int strangers = ride.house.strangers;
        int one = strangers < MOST_STRANGERS ? floorForStranger(ride.state, strangers, 0) : NONE;
        if (one != NONE) {
            return 10 + one;
        }
        return strangers == 0 ? hireTwo() : NONE;
    }

    private int hireTwo() {
        for (int less = 0; less < ride.house.floors; less++) {
            int withOne = State.withStrangers(ride.state, 1 << MOST_RIDERS, less);
            int other = floorForStranger(withOne, 1, less);
            if (other != NONE) {
                return 100 + 10 * less + other;
            }
        }
        return NONE;
    }

    /** The least FLOOR at which one STRANGER more, behind so many, makes that all RIDERS can be DONE. */
    private int floorForStranger(int state, int strangers, int leastFloor) {
        int all = ride.house.riderBits();
        searched = false;
        for (int floor = leastFloor; floor < ride.house.floors; floor++) {
            search.explore(ride.house, State.withStrangers(state, 1 << MOST_RIDERS + strangers, floor), all);
            if (search.firstWith(all) != NONE) {
                return floor;
            }
        }
        return NONE;
    }

    public int walks() {
        searchAll();
        int least = search.haltsTo(search.firstWith(ride.house.riderBits()));
        int best = NONE;
        for (int walk = 0; walk < 2 * ride.house.riders; walk++) {
            int rider = walk / 2;
            int up = walk % 2;
            int needed = fewestAfterWalk(rider, up == 1 ? 1 : -1);
            if (needed != NONE && (least == NONE || needed < least)) {
                least = needed;
                best = 10 * rider + up;
            }
        }
        return best;
    }

    private int fewestAfterWalk(int rider, int flight) {
        int floor = ride.house.standOf(rider) + flight;
        if ((State.goneIn(ride.state) & 1 << rider) != 0 || !ride.house.hasFloor(floor)) {
            return NONE;
        }
        int all = ride.house.riderBits();
        boolean arrives = floor == ride.house.wantOf(rider);
        trial.copyFrom(ride.house);
        trial.settle(rider, floor);
        searched = false;
        search.explore(trial, arrives ? State.withDone(ride.state, rider) : ride.state, all);
        return search.haltsTo(search.firstWith(all));
    }

    public int call(int rule) {
        if (rule < NEAREST || rule > TURNS) {
            return UNKNOWN;
        }
        if (ride.isFull()) {
            return FULL;
        }
        int floor = floorBy(rule);
        if (floor != NONE) {
            int many = ride.mostAt(floor);
            makeHalt(floor, leastOf(ride.mayLeave(floor), many), leastOf(ride.mayEnter(floor), many));
        }
        return floor;
    }

    private int floorBy(int rule) {
        int best = NONE;
        int bestRank = 0;
        for (int floor = 0; floor < ride.house.floors; floor++) {
            int rank = rankOf(floor, rule);
            if (ride.mostAt(floor) > 0 && (best == NONE || rank < bestRank)) {
                best = floor;
                bestRank = rank;
            }
        }
        return best;
    }

    /** The less the sooner. */
    private int rankOf(int floor, int rule) {
        int hoist = ride.hoist();
        int flights = Math.abs(floor - hoist);
        switch (rule) {
            case NEAREST: return flights;
            case FULLEST: return flights - MOST_FLOORS * ride.mostAt(floor);
            default: return floor >= hoist ? flights : MOST_FLOORS + flights;
        }
    }

    private static int leastOf(int people, int many) {
        int least = 0;
        for (int who = 0; who < MOST_PEOPLE && Integer.bitCount(least) < many; who++) {
            least |= people & 1 << who;
        }
        return least;
    }

    // ---- seen

    public int see(int floor, int k) {
        if (!ride.house.hasFloor(floor)) {
            return UNKNOWN;
        }
        if (k < 1 || k > MOST_PEOPLE) {
            return BAD;
        }
        if (sightings.isFull()) {
            return FULL;
        }
        sightings.add(floor, k);
        return sightings.size();
    }

    public int unsee() {
        int was = sightings.size();
        sightings.clear();
        return was;
    }

    public long ways() {
        return rowsWith(0);
    }

    public long byThen(int who) {
        return ride.house.hasPerson(who) ? rowsWith(1 << who) : UNKNOWN;
    }

    private long rowsWith(int people) {
        searchAll();
        sightings.count(ride.house, search);
        return sightings.rowsWith(search, people);
    }

    // ---- chances

    public int likely(int who, int tenths) {
        if (!ride.house.hasPerson(who)) {
            return UNKNOWN;
        }
        if (tenths < 0 || tenths > MOST_TENTHS) {
            return BAD;
        }
        return chances.change(who, tenths);
    }

    public long even(int floor, boolean upper) {
        if (!ride.house.hasFloor(floor)) {
            return UNKNOWN;
        }
        chances.weigh(ride.mayLeave(floor), ride.mayEnter(floor));
        return upper ? chances.above() : chances.below();
    }

    // ---- slots

    public int keep(int slot) {
        if (slot < 0 || slot >= kept.length) {
            return UNKNOWN;
        }
        Ride copy = kept[slot] == null ? new Ride() : kept[slot];
        copy.copyFrom(ride);
        kept[slot] = copy;
        return ride.house.people();
    }

    public int again(int slot) {
        if (slot < 0 || slot >= kept.length) {
            return UNKNOWN;
        }
        Ride copy = kept[slot];
        if (copy == null) {
            return LATE;
        }
        ride.copyFrom(copy);
        searched = false;
        return ride.house.people();
    }

    // ---- rows, whose places are tested before they are used

    private static int at(int[] row, int i) {
        return i >= 0 && i < row.length ? row[i] : 0;
    }

    private static long at(long[] row, int i) {
        return i >= 0 && i < row.length ? row[i] : 0;
    }

    private static void put(int[] row, int i, int value) {
        if (i >= 0 && i < row.length) {
            row[i] = value;
        }
    }

    private static void put(long[] row, int i, long value) {
        if (i >= 0 && i < row.length) {
            row[i] = value;
        }
    }

    private static void copy(int[] from, int[] to) {
        System.arraycopy(from, 0, to, 0, Math.min(from.length, to.length));
    }

    /** THE TEXT. */
    private static final class Text {
        static final int MOST = 40;
        private final int[] bytes = new int[MOST];
        private int size = 0;

        int size() {
            return size;
        }

        boolean hasRoomFor(int more) {
            return size + more <= MOST;
        }

        void append(int value) {
            if (size < MOST) {
                put(bytes, size, value);
                size++;
            }
        }

        void clear() {
            size = 0;
        }

        int byteAt(int place) {
            return place < size ? at(bytes, place) : NONE;
        }
    }

    /** Reads THE TEXT part by part; its place stands still at the first fault. */
    private static final class Reader {
        private int place = 0;

        int read(Text text, Ride into) {
            place = 0;
            if (text.byteAt(place) != 'N') {
                return place;
            }
            place++;
            int floors = text.byteAt(place) - '0';
            if (floors < LEAST_FLOORS || floors > MOST_FLOORS) {
                return place;
            }
            place++;
            into.empty(floors);
            for (int part = 0; part < Text.MOST && place < text.size(); part++) {
                if (!readPart(text, into)) {
                    return place;
                }
            }
            return NONE;
        }

        private boolean readPart(Text text, Ride into) {
            switch (text.byteAt(place)) {
                case 'I': return into.house.hasRoomForRider() && readRider(text, into, false);
                case 'A': return into.house.hasRoomForRider() && readRider(text, into, true);
                case 'S': return into.house.hasRoomForStranger() && readStranger(text, into, true);
                case 'T': return into.house.hasRoomForStranger() && readStranger(text, into, false);
                default: return false;
            }
        }

        private boolean readRider(Text text, Ride into, boolean stands) {
            place++;
            int floor = stands ? readFloor(text, into.house, NONE) : NONE;
            if (stands && floor == NONE) {
                return false;
            }
            int want = readFloor(text, into.house, floor);
            if (want == NONE) {
                return false;
            }
            into.addRider(floor, want);
            return true;
        }

        private boolean readStranger(Text text, Ride into, boolean stands) {
            place++;
            int where = stands ? readFloor(text, into.house, NONE) : State.INSIDE;
            if (where == NONE) {
                return false;
            }
            into.addStranger(where);
            return true;
        }

        private int readFloor(Text text, House house, int butNot) {
            int floor = text.byteAt(place) - '0';
            if (!house.hasFloor(floor) || floor == butNot) {
                return NONE;
            }
            place++;
            return floor;
        }
    }

    /** What no HALT changes: FLOORS, how many there are, what RIDERS WANT and where those stand that are not in yet. */
    private static final class House {
        private int floors = LEAST_FLOORS;
        private int riders = 0;
        private int strangers = 0;
        private final int[] wants = new int[MOST_RIDERS];
        private final int[] stands = new int[MOST_RIDERS];
        /** The same by FLOORS, as bits of RIDERS: a search asks for nothing else. */
        private final int[] wantAt = new int[MOST_FLOORS];
        private final int[] standAt = new int[MOST_FLOORS];

        void empty(int newFloors) {
            floors = newFloors;
            riders = 0;
            strangers = 0;
            Arrays.fill(wantAt, 0);
            Arrays.fill(standAt, 0);
        }

        void copyFrom(House other) {
            floors = other.floors;
            riders = other.riders;
            strangers = other.strangers;
            copy(other.wants, wants);
            copy(other.stands, stands);
            copy(other.wantAt, wantAt);
            copy(other.standAt, standAt);
        }

        boolean hasRoomForRider() {
            return riders < MOST_RIDERS;
        }

        boolean hasRoomForStranger() {
            return strangers < MOST_STRANGERS;
        }

        /** A floor that there is not (NONE) is that of a RIDER that is INSIDE. */
        void addRider(int floor, int want) {
            put(wants, riders, want);
            put(wantAt, want, at(wantAt, want) | 1 << riders);
            put(stands, riders, floor);
            put(standAt, floor, at(standAt, floor) | 1 << riders);
            riders++;
        }

        void addStranger() {
            strangers++;
        }

        void settle(int rider, int floor) {
            int before = standOf(rider);
            put(standAt, before, at(standAt, before) & ~(1 << rider));
            put(stands, rider, floor);
            put(standAt, floor, at(standAt, floor) | 1 << rider);
        }

        boolean hasFloor(int floor) {
            return floor >= 0 && floor < floors;
        }

        boolean hasPerson(int who) {
            return who >= 0 && who < riders || who >= MOST_RIDERS && who < MOST_RIDERS + strangers;
        }

        boolean hasRiders(int bits) {
            return (bits & ~riderBits()) == 0;
        }

        int riderBits() {
            return (1 << riders) - 1;
        }

        int people() {
            return riders + strangers;
        }

        int wantOf(int rider) {
            return at(wants, rider);
        }

        int standOf(int rider) {
            return at(stands, rider);
        }

        int mayLeave(int state, int floor) {
            return state & at(wantAt, floor) | State.strangersAt(state, State.INSIDE);
        }

        int mayEnter(int state, int floor) {
            return at(standAt, floor) & ~State.goneIn(state) | State.strangersAt(state, floor);
        }
    }

    /**
     * Who is where, in one number, so that a search through all of them makes no objects: bits 0 to 3 RIDERS that are
     * INSIDE, 4 to 7 RIDERS that are DONE, then three bits for the place of each STRANGER.
     */
    private static final class State {
        static final int INSIDE = 7;
        private static final int NOWHERE = 6;
        private static final int ONE = 2 * MOST_RIDERS, OTHER = ONE + 3;
        private static final int ONE_BIT = 1 << MOST_RIDERS, OTHER_BIT = 2 << MOST_RIDERS;
        static final int NOBODY = NOWHERE << ONE | NOWHERE << OTHER;

        static int inside(int state) {
            return state & RIDER_BITS | strangersAt(state, INSIDE);
        }

        static int done(int state) {
            return state >> MOST_RIDERS & RIDER_BITS;
        }

        /** RIDERS that stand nowhere any more. */
        static int goneIn(int state) {
            return (state | state >> MOST_RIDERS) & RIDER_BITS;
        }

        /** Whom one looks for behind the last HALT that was seen: RIDERS that are DONE, STRANGERS that are INSIDE. */
        static int brought(int state) {
            return done(state) | strangersAt(state, INSIDE);
        }

        static int strangersAt(int state, int place) {
            int one = (state >> ONE & INSIDE) == place ? ONE_BIT : 0;
            int other = (state >> OTHER & INSIDE) == place ? OTHER_BIT : 0;
            return one | other;
        }

        static int placeOf(int state, int stranger) {
            return state >> (stranger == MOST_RIDERS ? ONE : OTHER) & INSIDE;
        }

        static int withInside(int state, int rider) {
            return state | 1 << rider;
        }

        static int withDone(int state, int rider) {
            return state | 1 << MOST_RIDERS + rider;
        }

        /** Of people those that are STRANGERS are at that place. */
        static int withStrangers(int state, int people, int place) {
            int placed = (people & ONE_BIT) == 0 ? state : state & ~(INSIDE << ONE) | place << ONE;
            return (people & OTHER_BIT) == 0 ? placed : placed & ~(INSIDE << OTHER) | place << OTHER;
        }

        static int after(int state, int floor, int out, int in) {
            int riders = state & ~(out & RIDER_BITS) | in & RIDER_BITS | (out & RIDER_BITS) << MOST_RIDERS;
            return withStrangers(withStrangers(riders, out, floor), in, INSIDE);
        }

        static int before(int state, int floor, int out, int in) {
            int riders = state & ~(in & RIDER_BITS) & ~((out & RIDER_BITS) << MOST_RIDERS) | out & RIDER_BITS;
            return withStrangers(withStrangers(riders, out, INSIDE), in, floor);
        }
    }

    /** A HALT in one number. */
    private static final class Halt {
        private static final int FLOOR = 0, OUT = 1, IN = 2;
        private static final int PEOPLE_BITS = RIDER_BITS | STRANGER_BITS;

        static int of(int floor, int out, int in) {
            return floor << 2 * MOST_PEOPLE | out << MOST_PEOPLE | in;
        }

        static boolean tells(int what) {
            return what >= FLOOR && what <= IN;
        }

        static int told(int halt, int what) {
            switch (what) {
                case FLOOR: return halt >> 2 * MOST_PEOPLE;
                case OUT: return halt >> MOST_PEOPLE & PEOPLE_BITS;
                default: return halt & PEOPLE_BITS;
            }
        }

        static int floorOf(int halt) {
            return told(halt, FLOOR);
        }
    }

    /** The HALTS that can be at one FLOOR, one behind the other, in order by OUT, then by IN. */
    private static final class Exchanges {
        /** Nobody may both get OUT and IN: there are no more pairs of sets than sets of all. */
        static final int MOST = 1 << MOST_PEOPLE;
        private int mayLeave = 0;
        private int mayEnter = 0;
        private int out = 0;
        private int in = 0;

        void begin(int leaving, int entering) {
            mayLeave = leaving;
            mayEnter = entering;
            out = entering == 0 ? 0 : nextSet(0, leaving);
            in = 0;
        }

        boolean next() {
            for (int pair = 0; pair < MOST && out != 0; pair++) {
                in = nextSet(in, mayEnter);
                if (in == 0) {
                    out = nextSet(out, mayLeave);
                } else if (Integer.bitCount(in) == Integer.bitCount(out)) {
                    return true;
                }
            }
            return false;
        }

        /** The subset of all with the next higher number; behind the last one the empty one. */
        private static int nextSet(int set, int all) {
            return set - all & all;
        }
    }

    /** How all is: a HOUSE, who is where in it, the HALTS that were made. */
    private static final class Ride {
        static final int MOST = 24;
        private final House house = new House();
        private int state = State.NOBODY;
        private final int[] row = new int[MOST];
        private int size = 0;

        void empty(int floors) {
            house.empty(floors);
            state = State.NOBODY;
            size = 0;
        }

        void copyFrom(Ride other) {
            house.copyFrom(other.house);
            state = other.state;
            copy(other.row, row);
            size = other.size;
        }

        void addRider(int floor, int want) {
            if (floor == NONE) {
                state = State.withInside(state, house.riders);
            }
            house.addRider(floor, want);
        }

        void addStranger(int place) {
            state = State.withStrangers(state, 1 << MOST_RIDERS + house.strangers, place);
            house.addStranger();
        }

        int placeOf(int who) {
            if ((State.inside(state) & 1 << who) != 0) {
                return TOLD_INSIDE;
            }
            if ((State.done(state) & 1 << who) != 0) {
                return TOLD_DONE;
            }
            return who < MOST_RIDERS ? house.standOf(who) : State.placeOf(state, who);
        }

        int mayLeave(int floor) {
            return house.mayLeave(state, floor);
        }

        int mayEnter(int floor) {
            return house.mayEnter(state, floor);
        }

        /** How many can get OUT and IN. */
        int mostAt(int floor) {
            return Math.min(Integer.bitCount(mayLeave(floor)), Integer.bitCount(mayEnter(floor)));
        }

        boolean allows(int floor, int out, int in) {
            return out != 0 && Integer.bitCount(out) == Integer.bitCount(in)
                && (out & ~mayLeave(floor)) == 0 && (in & ~mayEnter(floor)) == 0;
        }

        int size() {
            return size;
        }

        boolean isFull() {
            return size >= MOST;
        }

        int haltAt(int i) {
            return at(row, i);
        }

        void add(int floor, int out, int in) {
            if (size < MOST) {
                state = State.after(state, floor, out, in);
                put(row, size, Halt.of(floor, out, in));
                size++;
            }
        }

        void takeBack() {
            if (size > 0) {
                size--;
                int halt = haltAt(size);
                state = State.before(state, Halt.floorOf(halt), Halt.told(halt, Halt.OUT), Halt.told(halt, Halt.IN));
            }
        }

        int hoist() {
            return size == 0 ? 0 : Halt.floorOf(haltAt(size - 1));
        }

        int flights() {
            int sum = 0;
            int from = 0;
            for (int i = 0; i < size; i++) {
                int to = Halt.floorOf(haltAt(i));
                sum += Math.abs(to - from);
                from = to;
            }
            return sum;
        }
    }

    /**
     * All STATES that can come of one, nearest first. HALTS are tried in order, so that the way by which a STATE was
     * met first is the first one of the shortest ways to it, and of STATES as near the one with the first way stands
     * ahead.
     */
    private static final class Search {
        /** No HALT makes more stand at a FLOOR, so STATES are few: ReachTest goes through all houses and meets 90. */
        static final int MOST = 128;
        /** Five RIDERS there are never: no STATE ends the search. */
        static final int NOTHING_IS_ENOUGH = 1 << MOST_RIDERS;
        private final int[] states = new int[MOST];
        private final int[] comesFrom = new int[MOST];
        private final int[] halts = new int[MOST];
        private final Exchanges exchanges = new Exchanges();
        private int size = 0;
        private boolean found = false;

        int size() {
            return size;
        }

        int stateAt(int i) {
            return at(states, i);
        }

        int indexOf(int state) {
            for (int i = 0; i < size && i < states.length; i++) {
                if (states[i] == state) {
                    return i;
                }
            }
            return NONE;
        }

        /** Ends as soon as a STATE was met in which all riders of enough are DONE. */
        void explore(House house, int start, int enough) {
            size = 0;
            found = false;
            meet(start, NONE, NONE, enough);
            for (int i = 0; i < MOST && i < size && !found; i++) {
                for (int floor = 0; floor < house.floors; floor++) {
                    spread(house, i, floor, enough);
                }
            }
        }

        private void spread(House house, int from, int floor, int enough) {
            int state = at(states, from);
            exchanges.begin(house.mayLeave(state, floor), house.mayEnter(state, floor));
            for (int i = 0; i < Exchanges.MOST && exchanges.next(); i++) {
                int next = State.after(state, floor, exchanges.out, exchanges.in);
                meet(next, from, Halt.of(floor, exchanges.out, exchanges.in), enough);
            }
        }

        private void meet(int state, int from, int halt, int enough) {
            if (size >= MOST || indexOf(state) != NONE) {
                return;
            }
            put(states, size, state);
            put(comesFrom, size, from);
            put(halts, size, halt);
            size++;
            found = found || (State.done(state) & enough) == enough;
        }

        int firstWith(int riders) {
            for (int i = 0; i < size; i++) {
                if ((State.done(at(states, i)) & riders) == riders) {
                    return i;
                }
            }
            return NONE;
        }

        int haltsTo(int index) {
            if (index == NONE) {
                return NONE;
            }
            int count = 0;
            for (int i = index; i > 0 && count < size; i = at(comesFrom, i)) {
                count++;
            }
            return count;
        }

        int haltOnWay(int index, int i) {
            int count = haltsTo(index);
            if (i < 0 || i >= count) {
                return NONE;
            }
            int last = index;
            for (int behind = count - 1; behind > i; behind--) {
                last = at(comesFrom, last);
            }
            return at(halts, last);
        }

        int everDone() {
            int riders = 0;
            for (int i = 0; i < size; i++) {
                riders |= State.done(at(states, i));
            }
            return riders;
        }
    }

    /** What is SEEN, and in how many rows of HALTS each STATE can stand behind it. */
    private static final class Sightings {
        static final int MOST = 8;
        private final int[] floors = new int[MOST];
        private final int[] numbers = new int[MOST];
        private int size = 0;
        private final long[] rows = new long[Search.MOST];
        private final long[] nextRows = new long[Search.MOST];
        private final Exchanges exchanges = new Exchanges();

        int size() {
            return size;
        }

        boolean isFull() {
            return size >= MOST;
        }

        void add(int floor, int number) {
            if (size < MOST) {
                put(floors, size, floor);
                put(numbers, size, number);
                size++;
            }
        }

        void clear() {
            size = 0;
        }

        void count(House house, Search search) {
            Arrays.fill(rows, 0L);
            put(rows, 0, 1L);
            for (int i = 0; i < size; i++) {
                Arrays.fill(nextRows, 0L);
                for (int from = 0; from < search.size(); from++) {
                    if (at(rows, from) != 0) {
                        spread(house, search, from, i);
                    }
                }
                System.arraycopy(nextRows, 0, rows, 0, Math.min(nextRows.length, rows.length));
            }
        }

        private void spread(House house, Search search, int from, int sighting) {
            int state = search.stateAt(from);
            int floor = at(floors, sighting);
            exchanges.begin(house.mayLeave(state, floor), house.mayEnter(state, floor));
            for (int i = 0; i < Exchanges.MOST && exchanges.next(); i++) {
                if (Integer.bitCount(exchanges.out) == at(numbers, sighting)) {
                    int to = search.indexOf(State.after(state, floor, exchanges.out, exchanges.in));
                    put(nextRows, to, at(nextRows, to) + at(rows, from));
                }
            }
        }

        /** In how many rows all of these people are brought. */
        long rowsWith(Search search, int people) {
            long sum = 0;
            for (int i = 0; i < search.size(); i++) {
                sum += (State.brought(search.stateAt(i)) & people) == people ? at(rows, i) : 0;
            }
            return sum;
        }
    }

    /** How likely each is there, and the chance of an even exchange. */
    private static final class Chances {
        private static final int MOST_ROUNDS = 100;
        private final int[] tenths = new int[MOST_PEOPLE];
        /** By how many are there, of so many as ten times ten times .. the weight of that. */
        private final long[] leaving = new long[MOST_PEOPLE + 1];
        private final long[] entering = new long[MOST_PEOPLE + 1];
        private long above = 0;
        private long below = 1;

        Chances() {
            Arrays.fill(tenths, MOST_TENTHS);
        }

        void reset() {
            Arrays.fill(tenths, MOST_TENTHS);
        }

        int change(int who, int to) {
            int was = at(tenths, who);
            put(tenths, who, to);
            return was;
        }

        long above() {
            return above;
        }

        long below() {
            return below;
        }

        void weigh(int mayLeave, int mayEnter) {
            long all = weighOne(mayLeave, leaving) * weighOne(mayEnter, entering);
            long like = 0;
            for (int many = 1; many <= MOST_PEOPLE; many++) {
                like += at(leaving, many) * at(entering, many);
            }
            long divisor = commonDivisor(all, like);
            if (divisor != 0) {
                above = like / divisor;
                below = all / divisor;
            }
        }

        /** Answers the sum of the weights. */
        private long weighOne(int people, long[] weights) {
            long sum = 1;
            Arrays.fill(weights, 0L);
            put(weights, 0, 1L);
            for (int who = 0; who < MOST_PEOPLE; who++) {
                if ((people & 1 << who) != 0) {
                    join(at(tenths, who), weights);
                    sum *= MOST_TENTHS;
                }
            }
            return sum;
        }

        private static void join(int there, long[] weights) {
            for (int many = MOST_PEOPLE; many >= 0; many--) {
                put(weights, many, at(weights, many) * (MOST_TENTHS - there) + at(weights, many - 1) * there);
            }
        }

        private static long commonDivisor(long one, long other) {
            long greater = one;
            long less = other;
            for (int round = 0; round < MOST_ROUNDS && less != 0; round++) {
                long rest = greater % less;
                greater = less;
                less = rest;
            }
            return greater;
        }
    }
}
