import java.util.Arrays;

/**
 * Alone in a room, one owes it a coin: a house of rooms, doors, sills and cats, the people in it
 * who go or stay beat by beat, and what may be asked about them. See README.md.
 *
 * A standing is a number to the base 8, person 0's room its lowest figure; rows of bits (doors,
 * cats, who is alone) have room or person 0 as their lowest bit. All rows are made once, in
 * constructors, and used again by every call.
 */
public final class AloneRooms {
    public static final int NONE = -1, BAD = -2, NO = -3, FULL = -4;

    private static final int BAD_WISH = -10, BAD_PICK = -10, BAD_PURSE = -100000;
    private static final int BAD_STATUS = -1, NOT_SO_MANY = -5, FAULT_BASE = -10;

    private static final int MOST_ROOMS = 5, MOST_PEOPLE = 4, MOST_PENNIES = 999, MOST_TOLD = 1999;
    private static final int MOST_LAWS = 5, MOST_IMAGES = 2, MOST_COUNTS = 8, MOST_BYTES = 200;
    private static final int MOST_PLANNED = 8, MOST_PASTS = 8, MOST_WISHES = 4, MOST_STEPS = 6;
    private static final int MOST_RENT = 99, MOST_SEED = 999999, MOST_DRAWN = 20, MOST_BEATS = 999;

    /** One above the highest standing: four people in room 4, 4444 to the base 8. */
    private static final int STANDINGS = 2341;
    /** How many standings there are of four people in five rooms. */
    private static final int MOST_WAYS = 625;

    private final House house = new House();
    /** A house for trials: what is asked never touches the one that stands. */
    private final House trial = new House();
    private final House[] images = {new House(), new House()};
    private final boolean[] kept = new boolean[MOST_IMAGES];
    private final Text text = new Text();
    private final Once[] laws = {new Once(), new Each(), new Halves(), new Sleep(), new Comers()};
    private final Ways ways = new Ways();
    private final Evening evening = new Evening();
    private final Search search = new Search();
    private final Walk walk = new Walk();
    private int refusedBad;
    private int refusedNo;
    private int refusedFull;

    public AloneRooms() {
    }

    // ---- a house

    public int rooms(int n) {
        if (n < 1 || n > MOST_ROOMS) {
            return refuse(BAD);
        }
        int before = house.size;
        house.empty(n);
        return before;
    }

    public int door(int a, int b, boolean is) {
        if (!isRoom(a) || !isRoom(b) || a == b) {
            return refuse(BAD);
        }
        if (has(house.doors[a], b) == is) {
            return refuse(NO);
        }
        house.doors[a] ^= 1 << b;
        house.doors[b] ^= 1 << a;
        return 1;
    }

    public int cat(int room, boolean is) {
        if (!isRoom(room)) {
            return refuse(BAD);
        }
        if (has(house.cats, room) == is) {
            return refuse(NO);
        }
        house.cats ^= 1 << room;
        return 1;
    }

    public int lay(int room, int v) {
        if (!isRoom(room) || v < 0 || v > MOST_PENNIES) {
            return refuse(BAD);
        }
        int before = house.pennies[room];
        house.pennies[room] = v;
        return before;
    }

    public int person(int room) {
        if (!isRoom(room)) {
            return refuse(BAD);
        }
        if (house.people >= MOST_PEOPLE) {
            return refuse(FULL);
        }
        house.enter(room);
        return house.people - 1;
    }

    public int law(int kind) {
        if (!isLaw(kind)) {
            return refuse(BAD);
        }
        int before = house.kind;
        house.kind = kind;
        return before;
    }

    public int wish(int person, int h, int room) {
        if (!isPerson(person) || h < 1 || h > MOST_WISHES || (room != NONE && !isRoom(room))) {
            refuse(BAD);
            return BAD_WISH;
        }
        int at = wishPlace(person, h);
        int before = house.wishes[at];
        house.wishes[at] = room;
        return before;
    }

    public int type(long v, int n) {
        if (n < 1 || n > 8) {
            return refuse(BAD);
        }
        if (text.length + n > MOST_BYTES) {
            return refuse(FULL);
        }
        text.add(v, n);
        return text.length;
    }

    public int clear() {
        int before = text.length;
        text.length = 0;
        return before;
    }

    public int read() {
        int fault = text.parse(trial);
        if (fault != NONE) {
            return FAULT_BASE - fault;
        }
        house.copy(trial);
        return house.people;
    }

    // ---- beats

    public int beat(int standing) {
        if (!isStanding(standing)) {
            return refuse(BAD);
        }
        if (!house.canGo(house.where, standing)) {
            return refuse(NO);
        }
        house.remember();
        return house.go(standing, laws[house.kind]);
    }

    public int undo() {
        if (house.pasts == 0) {
            return refuse(NO);
        }
        house.goBack();
        return 1;
    }

    public int standing() {
        return house.where;
    }

    public int sill(int room) {
        return isRoom(room) ? house.pennies[room] : refuse(BAD);
    }

    public int purse(int person) {
        if (!isPerson(person)) {
            refuse(BAD);
            return BAD_PURSE;
        }
        return house.purses[person];
    }

    public int alone(int person) {
        if (!isPerson(person)) {
            return refuse(BAD);
        }
        return has(house.lone(house.where), person) ? 1 : 0;
    }

    // ---- plans

    public int plan(int standing) {
        if (!isStanding(standing)) {
            return refuse(BAD);
        }
        if (house.planned >= MOST_PLANNED) {
            return refuse(FULL);
        }
        house.plan[house.planned] = standing;
        house.planned++;
        return house.planned;
    }

    public int scrap() {
        int before = house.planned;
        house.planned = 0;
        return before;
    }

    public int judge() {
        int from = house.where;
        for (int i = 0; i < house.planned; i++) {
            if (!house.canGo(from, house.plan[i])) {
                return i;
            }
            from = house.plan[i];
        }
        return NONE;
    }

    public int cost(int law) {
        if (!isLaw(law)) {
            return refuse(BAD);
        }
        if (judge() != NONE) {
            return refuse(NO);
        }
        trial.copy(house);
        int laid = 0;
        for (int i = 0; i < house.planned; i++) {
            laid += trial.go(house.plan[i], laws[law]);
        }
        return laid;
    }

    public int least(int h, int beat) {
        if (h < 1 || h > MOST_WISHES || beat < 0 || beat > h) {
            return refuse(BAD);
        }
        int fewest = evening.weigh(house, laws[house.kind], h);
        return beat == 0 || fewest == NONE ? fewest : evening.row[beat];
    }

    public int fewest(int standing) {
        if (!isStanding(standing)) {
            return refuse(BAD);
        }
        return search.beatsTo(house, laws[house.kind], standing);
    }

    public int quiet() {
        int many = ways.all(house);
        int quiet = 0;
        for (int w = 0; w < many; w++) {
            if (house.lone(ways.at) == 0) {
                quiet++;
            }
            ways.step();
        }
        return quiet;
    }

    public int picks(int room, int l, int i) {
        if (!isRoom(room) || l < 0 || l > MOST_STEPS || i < NONE) {
            refuse(BAD);
            return BAD_PICK;
        }
        walk.look(house, room, l);
        if (i == NONE) {
            return walk.most;
        }
        return i > walk.steps ? NOT_SO_MANY : walk.best[i];
    }

    public int join(int h) {
        if (h < 1 || h > MOST_WISHES) {
            return refuse(BAD);
        }
        if (house.people >= MOST_PEOPLE) {
            return refuse(NO);
        }
        int fewest = evening.weigh(house, laws[house.kind], h);
        int pair = NONE;
        for (int a = 0; a < house.size; a++) {
            for (int b = a + 1; b < house.size; b++) {
                trial.copy(house);
                trial.merge(a, b);
                int joined = evening.weigh(trial, laws[house.kind], h);
                if (joined != NONE && (fewest == NONE || joined < fewest)) {
                    fewest = joined;
                    pair = 10 * a + b;
                }
            }
        }
        return pair;
    }

    // ---- sills

    public int spy(int room, int v) {
        if (!isRoom(room) || v < 0 || v > MOST_TOLD) {
            return refuse(BAD);
        }
        int before = house.told[room];
        house.told[room] = v;
        return before;
    }

    public int fits() {
        return countFits(NONE, NONE);
    }

    public int was(int person, int room) {
        if (!isPerson(person) || !isRoom(room)) {
            return refuse(BAD);
        }
        return countFits(person, room);
    }

    public int rent(int k, int ahead) {
        if (k < 0 || k > MOST_RENT || ahead < 0 || ahead > 1) {
            return refuse(BAD);
        }
        Once law = laws[house.kind];
        int rent = 0;
        for (int i = 1; i <= k; i++) {
            if (law.lays(true, i > 1 || ahead == 1, house.beats + i)) {
                rent++;
            }
        }
        return rent;
    }

    public int drawn(int seed, int y, int what) {
        if (seed < 0 || seed > MOST_SEED || y < 0 || y > MOST_DRAWN || what < 0 || what > 1) {
            return refuse(BAD);
        }
        trial.copy(house);
        long x = seed;
        int laid = 0;
        for (int i = 0; i < y; i++) {
            int to = 0;
            for (int p = 0; p < trial.people; p++) {
                x = (x * 1103515245L + 12345L) % 2147483648L;
                int reach = trial.reach(roomOf(trial.where, p));
                to |= drawRoom(reach, x / 65536L) << 3 * p;
            }
            laid += trial.go(to, laws[trial.kind]);
        }
        return what == 0 ? laid : Integer.bitCount(trial.peopled());
    }

    // ---- what there is

    public int image(int i) {
        if (i < 0 || i >= MOST_IMAGES) {
            return refuse(BAD);
        }
        images[i].copy(house);
        kept[i] = true;
        return 1;
    }

    public int from(int i) {
        if (i < 0 || i >= MOST_IMAGES) {
            return refuse(BAD);
        }
        if (!kept[i]) {
            return refuse(NO);
        }
        house.copy(images[i]);
        return 1;
    }

    public int status(int what) {
        switch (what) {
            case 0: return refusedBad;
            case 1: return refusedNo;
            case 2: return refusedFull;
            default:
                refuse(BAD);
                return BAD_STATUS;
        }
    }

    public int count(int what) {
        switch (what) {
            case 0: return house.size;
            case 1: return house.people;
            case 2: return house.doorCount();
            case 3: return Integer.bitCount(house.cats);
            case 4: return house.beats;
            case 5: return house.planned;
            case 6: return house.pasts;
            case 7: return text.length;
            default: return refuse(BAD);
        }
    }

    public long digest() {
        long h = 757;
        for (int what = 0; what < MOST_COUNTS; what++) {
            h = 31 * h + count(what);
        }
        h = 31 * h + house.kind;
        h = 31 * h + house.where;
        for (int p = 0; p < house.people; p++) {
            h = 31 * h + house.purses[p];
            for (int beat = 1; beat <= MOST_WISHES; beat++) {
                h = 31 * h + house.wishes[wishPlace(p, beat)];
            }
        }
        for (int r = 0; r < house.size; r++) {
            h = 31 * h + house.pennies[r];
            h = 31 * h + (has(house.cats, r) ? 1 : 0);
            h = 31 * h + house.doors[r];
            h = 31 * h + house.told[r];
        }
        for (int i = 0; i < house.planned; i++) {
            h = 31 * h + house.plan[i];
        }
        return h;
    }

    // ---- what the calls share

    /** Counts a refusal, and answers its reason. */
    private int refuse(int reason) {
        if (reason == BAD) {
            refusedBad++;
        } else if (reason == NO) {
            refusedNo++;
        } else {
            refusedFull++;
        }
        return reason;
    }

    private boolean isRoom(int room) {
        return room >= 0 && room < house.size;
    }

    private boolean isPerson(int person) {
        return person >= 0 && person < house.people;
    }

    private boolean isLaw(int kind) {
        return kind >= 0 && kind < MOST_LAWS;
    }

    private boolean isStanding(int standing) {
        if (standing < 0 || standing >> 3 * house.people != 0) {
            return false;
        }
        for (int p = 0; p < house.people; p++) {
            if (roomOf(standing, p) >= house.size) {
                return false;
            }
        }
        return true;
    }

    /** The ways of the next beat that leave what was told; if one is named, only where he is alone in the room. */
    private int countFits(int person, int room) {
        trial.copy(house);
        int many = ways.onward(house, house.where);
        int fits = 0;
        for (int w = 0; w < many; w++) {
            trial.remember();
            trial.go(ways.at, laws[house.kind]);
            if (trial.isAsTold() && (person == NONE || trial.isAloneIn(person, room))) {
                fits++;
            }
            trial.goBack();
            ways.step();
        }
        return fits;
    }

    private static boolean has(int bits, int i) {
        return (bits >> i & 1) != 0;
    }

    private static int roomOf(int standing, int person) {
        return standing >> 3 * person & 7;
    }

    private static int wishPlace(int person, int h) {
        return person * MOST_WISHES + h - 1;
    }

    /** The room with number x, by how many there are left over, of a row of bits. */
    private static int drawRoom(int reach, long x) {
        int many = Integer.bitCount(reach);
        if (many == 0) {
            return 0;
        }
        int rest = reach;
        for (int r = (int) (x % many); r > 0; r--) {
            rest &= rest - 1;
        }
        return Integer.numberOfTrailingZeros(rest);
    }

    // ---- the laws, each under the one that it follows

    /** Law 0, over all others. */
    private static class Once {
        /** Whether one who is alone behind a beat lays a penny. */
        boolean lays(boolean stayed, boolean wasAlone, int beat) {
            return !(stayed && wasAlone);
        }

        /** Whether odd and even beats differ. */
        boolean mindsBeats() {
            return false;
        }

        /** What of the pennies gathered goes to the eldest other one. */
        int share(int gathered) {
            return 0;
        }
    }

    private static class Each extends Once {
        boolean lays(boolean stayed, boolean wasAlone, int beat) {
            return true;
        }
    }

    private static class Halves extends Once {
        int share(int gathered) {
            return gathered / 2;
        }
    }

    private static final class Sleep extends Each {
        boolean lays(boolean stayed, boolean wasAlone, int beat) {
            return (beat & 1) == 1 && super.lays(stayed, wasAlone, beat);
        }

        boolean mindsBeats() {
            return true;
        }
    }

    private static final class Comers extends Halves {
        boolean lays(boolean stayed, boolean wasAlone, int beat) {
            return !stayed && super.lays(stayed, wasAlone, beat);
        }
    }

    /** All that an image keeps. */
    private static final class House {
        /** Of a past beat: the standing, the sills, the purses. */
        static final int PAST_ROW = 1 + MOST_ROOMS + MOST_PEOPLE;

        int size = MOST_ROOMS;
        int cats;
        int people;
        int where;
        int kind;
        int beats;
        int planned;
        int pasts;
        final int[] doors = new int[MOST_ROOMS];
        final int[] pennies = new int[MOST_ROOMS];
        final int[] told = new int[MOST_ROOMS];
        final int[] purses = new int[MOST_PEOPLE];
        final int[] wishes = new int[MOST_PEOPLE * MOST_WISHES];
        final int[] plan = new int[MOST_PLANNED];
        final int[] past = new int[MOST_PASTS * PAST_ROW];

        House() {
            Arrays.fill(wishes, NONE);
        }

        void empty(int n) {
            size = n;
            cats = 0;
            people = 0;
            where = 0;
            kind = 0;
            beats = 0;
            planned = 0;
            pasts = 0;
            Arrays.fill(doors, 0);
            Arrays.fill(pennies, 0);
            Arrays.fill(told, 0);
            Arrays.fill(purses, 0);
            Arrays.fill(wishes, NONE);
        }

        void copy(House other) {
            size = other.size;
            cats = other.cats;
            people = other.people;
            where = other.where;
            kind = other.kind;
            beats = other.beats;
            planned = other.planned;
            pasts = other.pasts;
            System.arraycopy(other.doors, 0, doors, 0, MOST_ROOMS);
            System.arraycopy(other.pennies, 0, pennies, 0, MOST_ROOMS);
            System.arraycopy(other.told, 0, told, 0, MOST_ROOMS);
            System.arraycopy(other.purses, 0, purses, 0, MOST_PEOPLE);
            System.arraycopy(other.wishes, 0, wishes, 0, MOST_PEOPLE * MOST_WISHES);
            System.arraycopy(other.plan, 0, plan, 0, MOST_PLANNED);
            System.arraycopy(other.past, 0, past, 0, MOST_PASTS * PAST_ROW);
        }

        /** One of people comes; beats without him can not be undone then. */
        void enter(int room) {
            where |= room << 3 * people;
            people++;
            pasts = 0;
        }

        int doorCount() {
            int ends = 0;
            for (int r = 0; r < size; r++) {
                ends += Integer.bitCount(doors[r]);
            }
            return ends / 2;
        }

        /** The rooms where one of a room may be behind a beat. */
        int reach(int room) {
            return doors[room] | 1 << room;
        }

        int everywhere() {
            return (1 << size) - 1;
        }

        boolean canGo(int from, int to) {
            for (int p = 0; p < people; p++) {
                if (!has(reach(roomOf(from, p)), roomOf(to, p))) {
                    return false;
                }
            }
            return true;
        }

        int peopled() {
            int rooms = 0;
            for (int p = 0; p < people; p++) {
                rooms |= 1 << roomOf(where, p);
            }
            return rooms;
        }

        /** Who is alone in a standing. */
        int lone(int standing) {
            int once = 0;
            int shared = cats;
            for (int p = 0; p < people; p++) {
                int room = 1 << roomOf(standing, p);
                shared |= once & room;
                once |= room;
            }
            int lone = 0;
            for (int p = 0; p < people; p++) {
                if (!has(shared, roomOf(standing, p))) {
                    lone |= 1 << p;
                }
            }
            return lone;
        }

        boolean isAloneIn(int person, int room) {
            return roomOf(where, person) == room && has(lone(where), person);
        }

        /** Who is alone, for all standings: searches ask it of each one many times. */
        void markLone(int[] lone, Ways ways) {
            int many = ways.all(this);
            for (int w = 0; w < many; w++) {
                lone[ways.at] = lone(ways.at);
                ways.step();
            }
        }

        /** Who lays a penny in a beat, by who is alone ahead of it and behind it. */
        int payers(int from, int to, int ahead, int behind, int beat, Once law) {
            int payers = 0;
            for (int p = 0; p < people && behind >> p != 0; p++) {
                boolean stayed = roomOf(from, p) == roomOf(to, p);
                if (has(behind, p) && law.lays(stayed, has(ahead, p), beat)) {
                    payers |= 1 << p;
                }
            }
            return payers;
        }

        /** A beat to where all can go: how many pennies are laid. */
        int go(int to, Once law) {
            int from = where;
            beats++;
            int payers = payers(from, to, lone(from), lone(to), beats, law);
            where = to;
            for (int p = 0; p < people; p++) {
                if (has(payers, p)) {
                    purses[p]--;
                    pennies[roomOf(to, p)]++;
                }
            }
            for (int r = 0; r < size; r++) {
                gather(r, from, law);
            }
            return Integer.bitCount(payers);
        }

        private void gather(int room, int from, Once law) {
            int taker = NONE;
            int eldest = NONE;
            int second = NONE;
            for (int p = people - 1; p >= 0; p--) {
                if (roomOf(where, p) == room) {
                    second = eldest;
                    eldest = p;
                    taker = roomOf(from, p) == room ? taker : p;
                }
            }
            if (second == NONE || taker == NONE) {
                return;
            }
            int other = taker == eldest ? second : eldest;
            int share = law.share(pennies[room]);
            purses[taker] += pennies[room] - share;
            purses[other] += share;
            pennies[room] = 0;
        }

        boolean isAsTold() {
            for (int r = 0; r < size; r++) {
                if (pennies[r] != told[r]) {
                    return false;
                }
            }
            return true;
        }

        /** Keeps what a beat is about to change; the oldest of eight is forgotten. */
        void remember() {
            if (pasts == MOST_PASTS) {
                System.arraycopy(past, PAST_ROW, past, 0, (MOST_PASTS - 1) * PAST_ROW);
                pasts--;
            }
            int row = pasts * PAST_ROW;
            past[row] = where;
            System.arraycopy(pennies, 0, past, row + 1, MOST_ROOMS);
            System.arraycopy(purses, 0, past, row + 1 + MOST_ROOMS, MOST_PEOPLE);
            pasts++;
        }

        void goBack() {
            if (pasts == 0) {
                return;
            }
            pasts--;
            beats--;
            int row = pasts * PAST_ROW;
            where = past[row];
            System.arraycopy(past, row + 1, pennies, 0, MOST_ROOMS);
            System.arraycopy(past, row + 1 + MOST_ROOMS, purses, 0, MOST_PEOPLE);
        }

        /** Room b becomes a part of room a; sills are left as they are, for no least looks at them. */
        void merge(int a, int b) {
            int both = 1 << a | 1 << b;
            int joined = (doors[a] | doors[b]) & ~both;
            for (int r = 0; r < size; r++) {
                doors[r] = toFirst(doors[r], a, both);
            }
            doors[a] = joined;
            doors[b] = 0;
            cats = toFirst(cats, a, both);
            for (int i = 0; i < MOST_PEOPLE * MOST_WISHES; i++) {
                wishes[i] = wishes[i] == b ? a : wishes[i];
            }
            for (int p = 0; p < people; p++) {
                if (roomOf(where, p) == b) {
                    where ^= (a ^ b) << 3 * p;
                }
            }
        }

        private static int toFirst(int bits, int a, int both) {
            return (bits & both) == 0 ? bits : bits & ~both | 1 << a;
        }
    }

    /** Goes through standings one by one: person 0's room rises last, the last one's first. */
    private static final class Ways {
        int at;
        private int people;
        private final int[] masks = new int[MOST_PEOPLE];

        /** All standings of a house: how many. */
        int all(House house) {
            people = house.people;
            Arrays.fill(masks, house.everywhere());
            return begin();
        }

        /** The standings where each is in one of his rooms: how many. */
        int among(House house, int[] rooms) {
            people = house.people;
            System.arraycopy(rooms, 0, masks, 0, MOST_PEOPLE);
            return begin();
        }

        /** The standings behind a beat: how many. */
        int onward(House house, int from) {
            people = house.people;
            for (int p = 0; p < people; p++) {
                masks[p] = house.reach(roomOf(from, p));
            }
            return begin();
        }

        /** The standings behind a beat, each in one of his rooms: how many. */
        int onwardAmong(House house, int from, int[] rooms) {
            people = house.people;
            for (int p = 0; p < people; p++) {
                masks[p] = house.reach(roomOf(from, p)) & rooms[p];
            }
            return begin();
        }

        private int begin() {
            int many = 1;
            at = 0;
            for (int p = 0; p < people; p++) {
                many *= Integer.bitCount(masks[p]);
                at |= (Integer.numberOfTrailingZeros(masks[p]) & 7) << 3 * p;
            }
            return many;
        }

        void step() {
            for (int p = people - 1; p >= 0; p--) {
                int shift = 3 * p;
                int higher = masks[p] & -2 << roomOf(at, p);
                int next = higher != 0 ? higher : masks[p];
                at = at & ~(7 << shift) | (Integer.numberOfTrailingZeros(next) & 7) << shift;
                if (higher != 0) {
                    return;
                }
            }
        }
    }

    /** The least that is laid by an evening that keeps all wishes. */
    private static final class Evening {
        /** Where all are behind each beat of it. */
        final int[] row = new int[MOST_WISHES + 1];
        private House house;
        private Once law;
        private int length;
        private int first;
        /** By beats, of each one the rooms from which his later wishes can be kept. */
        private final int[][] keeping = new int[MOST_WISHES + 1][MOST_PEOPLE];
        /** By beats (1 on, but for the last) and standings, the least that is laid behind them. */
        private final int[][] rest = new int[MOST_WISHES - 1][STANDINGS];
        /** By beats, the least that any standing's rest is. */
        private final int[] leastRest = new int[MOST_WISHES + 1];
        private final int[] lone = new int[STANDINGS];
        private final Ways stands = new Ways();
        private final Ways ways = new Ways();

        int weigh(House house, Once law, int length) {
            this.house = house;
            this.law = law;
            this.length = length;
            house.markLone(lone, ways);
            for (int beat = length; beat >= 1; beat--) {
                markKeeping(beat);
            }
            leastRest[length] = 0;
            for (int beat = length - 1; beat >= 1; beat--) {
                fillRest(beat);
            }
            int least = leastFrom(house.where, 1);
            row[0] = house.where;
            for (int beat = 1; beat <= length && least != NONE; beat++) {
                leastFrom(row[beat - 1], beat);
                row[beat] = first;
            }
            return least;
        }

        private void markKeeping(int beat) {
            for (int p = 0; p < house.people; p++) {
                int wish = house.wishes[wishPlace(p, beat)];
                int wanted = wish == NONE ? house.everywhere() : 1 << wish;
                int rooms = 0;
                for (int r = 0; r < house.size; r++) {
                    boolean goesOn = beat == length || (house.reach(r) & keeping[beat + 1][p]) != 0;
                    if (goesOn && has(wanted, r)) {
                        rooms |= 1 << r;
                    }
                }
                keeping[beat][p] = rooms;
            }
        }

        private void fillRest(int beat) {
            int many = stands.among(house, keeping[beat]);
            int least = NONE;
            for (int w = 0; w < many; w++) {
                int found = leastFrom(stands.at, beat + 1);
                rest[beat - 1][stands.at] = found;
                least = least == NONE ? found : Math.min(least, found);
                stands.step();
            }
            leastRest[beat] = least;
        }

        /** The least laid from a beat on, and the first standing for it. */
        private int leastFrom(int from, int beat) {
            int many = ways.onwardAmong(house, from, keeping[beat]);
            int least = NONE;
            for (int w = 0; w < many && (least == NONE || least > leastRest[beat]); w++) {
                int to = ways.at;
                int payers = house.payers(from, to, lone[from], lone[to], house.beats + beat, law);
                int total = Integer.bitCount(payers) + (beat == length ? 0 : rest[beat - 1][to]);
                if (least == NONE || total < least) {
                    least = total;
                    first = to;
                }
                ways.step();
            }
            return least;
        }
    }

    /** The fewest beats from one standing to another, by which nothing is laid. */
    private static final class Search {
        private House house;
        private Once law;
        /** In how many beats a standing is reached, NONE: not yet; behind odd beats apart, if the law minds. */
        private final int[][] beatsOf = new int[2][STANDINGS];
        /** What is reached, as it is reached: twice the standing, and 1 if it is of those behind odd beats. */
        private final int[] reached = new int[2 * MOST_WAYS];
        private int many;
        private final int[] lone = new int[STANDINGS];
        private final Ways ways = new Ways();

        int beatsTo(House house, Once law, int goal) {
            this.house = house;
            this.law = law;
            house.markLone(lone, ways);
            Arrays.fill(beatsOf[0], NONE);
            Arrays.fill(beatsOf[1], NONE);
            many = 0;
            reach(house.where, 0);
            for (int i = 0; i < many && i < reached.length; i++) {
                int beats = Math.max(beatsOf[0][goal], beatsOf[1][goal]);
                if (beats != NONE) {
                    return beats;
                }
                spread(reached[i] >> 1, beatsOf[reached[i] & 1][reached[i] >> 1] + 1);
            }
            return NONE;
        }

        private void spread(int from, int beats) {
            int[] known = beatsOf[sideOf(beats)];
            int ends = beats > MOST_BEATS ? 0 : ways.onward(house, from);
            for (int w = 0; w < ends; w++) {
                int to = ways.at;
                if (known[to] == NONE
                        && house.payers(from, to, lone[from], lone[to], house.beats + beats, law) == 0) {
                    reach(to, beats);
                }
                ways.step();
            }
        }

        private void reach(int standing, int beats) {
            if (many < reached.length) {
                beatsOf[sideOf(beats)][standing] = beats;
                reached[many] = 2 * standing + sideOf(beats);
                many++;
            }
        }

        /** 1 behind odd beats, if the law minds; else 0. */
        private int sideOf(int beats) {
            return law.mindsBeats() ? house.beats + beats & 1 : 0;
        }
    }

    /** What two who go hand in hand pick up at most. */
    private static final class Walk {
        int most;
        int steps;
        final int[] best = new int[MOST_STEPS + 1];
        private House house;
        private int limit;
        private final int[] row = new int[MOST_STEPS + 1];

        void look(House house, int room, int limit) {
            this.house = house;
            this.limit = Math.min(limit, MOST_STEPS);
            most = NONE;
            go(this, room, 0, 0, 0);
        }

        /** Rows of as many steps come by their rooms, so only more pennies or fewer steps are better. */
        private static void go(Walk walk, int room, int step, int seen, int before) {
            if (step > walk.limit) {
                return;
            }
            int picked = has(seen, room) ? before : before + walk.house.pennies[room];
            walk.row[step] = room;
            if (picked > walk.most || picked == walk.most && step < walk.steps) {
                walk.most = picked;
                walk.steps = step;
                System.arraycopy(walk.row, 0, walk.best, 0, step + 1);
            }
            for (int r = 0; r < walk.house.size; r++) {
                if (has(walk.house.doors[room], r)) {
                    go(walk, r, step + 1, seen | 1 << room, picked);
                }
            }
        }
    }

    /** The text that tells a house, and its reader. */
    private static final class Text {
        private static final int END = 0, STRAY = 1, NUMBER = 2, STOP = 3;
        private static final int ROOMS = 4, DOOR = 5, CAT = 6, SILL = 7, PERSON = 8, WISH = 9, LAW = 10;
        private static final int MOST_FIGURES = 3;

        int length;
        private final int[] bytes = new int[MOST_BYTES];
        /** The token that is looked at: its kind, its first byte, the byte behind it, a number's value. */
        private int token;
        private int place;
        private int behind;
        private int value;
        private int fault;

        void add(long v, int n) {
            for (int i = n - 1; i >= 0 && length < MOST_BYTES; i--) {
                bytes[length] = (int) (v >> 8 * i) & 255;
                length++;
            }
        }

        /** Tells a house by the text: the fault, or NONE. */
        int parse(House house) {
            behind = 0;
            fault = NONE;
            advance();
            if (token != ROOMS) {
                return place;
            }
            house.empty(takeNumber(1, MOST_ROOMS));
            takeStop();
            for (int i = 0; i < length && fault == NONE; i++) {
                advance();
                if (token == END) {
                    return NONE;
                }
                takeItem(house);
                takeStop();
            }
            return fault;
        }

        /** What is told behind a fault does not matter: the house of a faulty text is never used. */
        private void takeItem(House house) {
            int last = house.size - 1;
            switch (token) {
                case DOOR:
                    int a = takeNumber(0, last);
                    int b = takeNumber(0, last);
                    if (a == b && fault == NONE) {
                        fault = place;
                    }
                    house.doors[a] |= 1 << b;
                    house.doors[b] |= 1 << a;
                    break;
                case CAT:
                    house.cats |= 1 << takeNumber(0, last);
                    break;
                case SILL:
                    int sill = takeNumber(0, last);
                    house.pennies[sill] = takeNumber(0, MOST_PENNIES);
                    break;
                case PERSON:
                    if (house.people >= MOST_PEOPLE) {
                        fault = place;
                    } else {
                        house.enter(takeNumber(0, last));
                    }
                    break;
                case WISH:
                    int person = takeNumber(0, house.people - 1);
                    int wished = wishPlace(person, takeNumber(1, MOST_WISHES));
                    house.wishes[wished] = takeNumber(0, last);
                    break;
                case LAW:
                    house.kind = takeNumber(0, MOST_LAWS - 1);
                    break;
                default:
                    fault = place;
            }
        }

        /** The next token's number; the lowest one behind a fault, so that it can be used like any. */
        private int takeNumber(int low, int high) {
            if (fault != NONE) {
                return low;
            }
            advance();
            if (token != NUMBER || value < low || value > high) {
                fault = place;
                return low;
            }
            return value;
        }

        private void takeStop() {
            if (fault != NONE) {
                return;
            }
            advance();
            if (token != STOP) {
                fault = place;
            }
        }

        private void advance() {
            while (behind < length && bytes[behind] == ' ') {
                behind++;
            }
            place = behind;
            if (behind >= length) {
                token = END;
            } else if (isWithin(behind, 'a', 'z')) {
                behind = endOf('a', 'z');
                token = wordToken();
            } else if (isWithin(behind, '0', '9')) {
                behind = endOf('0', '9');
                token = numberToken();
            } else {
                token = bytes[behind] == ';' ? STOP : STRAY;
                behind++;
            }
        }

        private boolean isWithin(int at, char low, char high) {
            return bytes[at] >= low && bytes[at] <= high;
        }

        /** Behind the bytes of one kind that begin at the place. */
        private int endOf(char low, char high) {
            int end = place;
            while (end < length && isWithin(end, low, high)) {
                end++;
            }
            return end;
        }

        private int numberToken() {
            if (behind - place > MOST_FIGURES) {
                return STRAY;
            }
            value = 0;
            for (int i = place; i < behind; i++) {
                value = 10 * value + bytes[i] - '0';
            }
            return NUMBER;
        }

        private int wordToken() {
            if (spells("rooms")) {
                return ROOMS;
            }
            if (spells("door")) {
                return DOOR;
            }
            if (spells("cat")) {
                return CAT;
            }
            if (spells("sill")) {
                return SILL;
            }
            if (spells("person")) {
                return PERSON;
            }
            if (spells("wish")) {
                return WISH;
            }
            return spells("law") ? LAW : STRAY;
        }

        private boolean spells(String word) {
            if (behind - place != word.length()) {
                return false;
            }
            for (int i = 0; i < word.length(); i++) {
                if (bytes[place + i] != word.charAt(i)) {
                    return false;
                }
            }
            return true;
        }
    }
}
