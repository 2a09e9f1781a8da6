/**
 * A duchy whose map is older than its land: what moths eat of the map is gone,
 * what is darned stands as it was darned. The promises are those of DOC.md.
 */
public final class EatenMaps {
    public static final int NONE = -6, UNKNOWN = -1, OUTSIDE = -2, STATE = -3, FULL = -4, NO = -5;
    public static final long LOST = -1000000000000000000L;

    private static final int SIDE = 5, CELLS = 25, MOTHS = 4, WAYS = 4;
    private static final int HOLE = 0, FIELD = 1, WOOD = 2, WATER = 3, TOWN = 4, ROAD = 5;
    private static final int GREEN = 1, BLUE = 2, WHITE = 3;
    private static final int MOST_CAMPHOR = 9, LAID_CAMPHOR = 3;
    private static final int MOST_THREAD = 99, FIRST_THREAD = 9;
    private static final int LAST_NIGHT = 99;
    private static final int PAD_SIGNS = 60, FIRST_SIGN = 33, LAST_SIGN = 126;
    private static final int SIGHTS = 8, SIGHT_NIGHTS = 41;
    private static final int DARNED_HOLES = 9;
    private static final int INCHES = 60;
    private static final int LAST_PLACE = 9, COFFEE_NIGHTS = 16;
    private static final int SEEDS = 10000, YEAR_ACTS = 99;
    private static final int IMAGES = 2;

    /** The worth (mex of the parts' worths, xored) of a strip of each length that is folded unevenly. */
    private static final int[] STRIPS = {
        0, 0, 0, 1, 0, 2, 1, 0, 2, 1, 0, 2, 1, 3, 2, 1, 3, 2, 4, 3,
        0, 4, 3, 0, 4, 3, 0, 4, 1, 2, 3, 1, 2, 4, 1, 2, 4, 1, 2, 4,
        1, 5, 4, 1, 5, 4, 1, 5, 4, 1, 0, 2, 1, 0, 2, 1, 5, 2, 1, 3,
        2,
    };

    private final Duchy now;
    private final Duchy spare;
    private final Duchy[] images;
    private final boolean[] kept;
    private final Pad pad;
    private final Nights outcome;
    private final Roads roads;
    private final Ministry ministry;
    private final Darner darner;
    private final Tracker tracker;
    private final Marsh marsh;

    public EatenMaps() {
        now = new Duchy();
        spare = new Duchy();
        images = new Duchy[IMAGES];
        for (int i = 0; i < IMAGES; i++) {
            images[i] = new Duchy();
        }
        kept = new boolean[IMAGES];
        pad = new Pad();
        outcome = new Nights();
        roads = new Roads();
        ministry = new Ministry();
        darner = new Darner();
        tracker = new Tracker();
        marsh = new Marsh();
    }

    // ---- 1 the map, moths, nights

    public int land(int cell, int v) {
        if (!isCell(cell)) {
            return UNKNOWN;
        }
        if (!within(v, HOLE, ROAD)) {
            return OUTSIDE;
        }
        int was = now.lands[cell];
        now.lands[cell] = v;
        return was;
    }

    public int camphor(int cell, int nights) {
        if (!isCell(cell)) {
            return UNKNOWN;
        }
        if (!within(nights, 0, MOST_CAMPHOR)) {
            return OUTSIDE;
        }
        int was = now.camphors[cell];
        now.camphors[cell] = nights;
        return was;
    }

    public int moth(int moth, int cell, int heads) {
        if (!isMoth(moth) || !isCell(cell)) {
            return UNKNOWN;
        }
        if (!isWay(heads)) {
            return OUTSIDE;
        }
        now.there[moth] = true;
        now.mothCells[moth] = cell;
        now.mothHeads[moth] = heads;
        return Integer.bitCount(now.mothBits());
    }

    public int spool(int thread, int v) {
        if (!isThread(thread)) {
            return UNKNOWN;
        }
        if (!within(v, 0, MOST_THREAD)) {
            return OUTSIDE;
        }
        int was = now.threads[thread];
        now.threads[thread] = v;
        return was;
    }

    public int say(int sign) {
        if (!within(sign, FIRST_SIGN, LAST_SIGN)) {
            return OUTSIDE;
        }
        return pad.append(sign) ? pad.size : FULL;
    }

    public int wipe() {
        return pad.clear();
    }

    public int fault() {
        return pad.firstWrong();
    }

    // ---- 2 nights

    public int judge(int what) {
        if (!within(what, 0, 1)) {
            return OUTSIDE;
        }
        if (pad.firstWrong() != NONE) {
            return NO;
        }
        outcome.tell(pad, now);
        if (outcome.why == 0) {
            return NONE;
        }
        return what == 0 ? outcome.acts : outcome.why;
    }

    public int done() {
        if (!nightsCanBe()) {
            return NO;
        }
        now.become(outcome.after);
        pad.clear();
        return outcome.acts;
    }

    public int behind(int cell, int what) {
        if (!isCell(cell)) {
            return UNKNOWN;
        }
        if (!within(what, 0, 1)) {
            return OUTSIDE;
        }
        if (!nightsCanBe()) {
            return NO;
        }
        return what == 0 ? outcome.after.lands[cell] : outcome.after.camphors[cell];
    }

    public int flies(int moth, int what) {
        if (!now.isThere(moth)) {
            return UNKNOWN;
        }
        if (!within(what, 0, 1)) {
            return OUTSIDE;
        }
        if (!nightsCanBe()) {
            return NO;
        }
        if (!outcome.after.isThere(moth)) {
            return NONE;
        }
        return what == 0 ? outcome.after.mothCells[moth] : outcome.after.mothHeads[moth];
    }

    public int then(int what) {
        if (!within(what, 0, 4)) {
            return OUTSIDE;
        }
        if (!nightsCanBe()) {
            return NO;
        }
        switch (what) {
            case 0:
                return outcome.after.countOf(HOLE);
            case 1:
                return outcome.after.threadsInAll();
            case 2:
                return outcome.after.night;
            case 3:
                return outcome.townNight;
            default:
                return outcome.town;
        }
    }

    public int road(int from, int to) {
        if (!isCell(from) || !isCell(to)) {
            return UNKNOWN;
        }
        int cost = roads.leastCost(now.lands, from, to);
        return cost < Roads.HOLE_COST ? cost : NONE;
    }

    // ---- 3 whole roads, camphor, darning, sheets

    public int whole(int from, int to, int what) {
        if (!isCell(from) || !isCell(to)) {
            return UNKNOWN;
        }
        if (!within(what, 0, 1)) {
            return OUTSIDE;
        }
        int cost = roads.leastCost(now.lands, from, to);
        if (cost >= Roads.FAR) {
            return NONE;
        }
        return what == 0 ? cost / Roads.HOLE_COST : cost % Roads.HOLE_COST;
    }

    public int camphored(int cell, int what) {
        if (!isCell(cell)) {
            return UNKNOWN;
        }
        if (!within(what, 0, 1)) {
            return OUTSIDE;
        }
        int cells = ministry.leastCells(now.mothCellBits(), 1 << cell);
        if (cells == NONE) {
            return NONE;
        }
        return what == 0 ? Integer.bitCount(cells) : cells;
    }

    public int darned(int what) {
        if (!within(what, 0, 1)) {
            return OUTSIDE;
        }
        if (now.countOf(HOLE) > DARNED_HOLES) {
            return STATE;
        }
        darner.darn(now.bitsOf(HOLE), now.bitsOf(TOWN));
        return what == 0 ? darner.ways : darner.first;
    }

    public int sheet(int lands, int what) {
        if (!areFourLands(lands) || !within(what, 0, 1)) {
            return OUTSIDE;
        }
        int count = 0;
        int first = NONE;
        for (int cell = 0; cell < CELLS; cell++) {
            if (now.fourLandsFrom(cell) == lands) {
                count++;
                first = first == NONE ? cell : first;
            }
        }
        return what == 0 ? count : first;
    }

    // ---- 4 where one began, folds, coffee

    public int seen(int night, int cell) {
        if (!isCell(cell)) {
            return UNKNOWN;
        }
        if (!within(night, 0, SIGHT_NIGHTS - 1)) {
            return OUTSIDE;
        }
        return now.addSight(night, cell) ? now.sights : FULL;
    }

    public int forget() {
        int were = now.sights;
        now.sights = 0;
        return were;
    }

    public int began(int i) {
        tracker.gather(now);
        if (i == -1) {
            return tracker.fitting;
        }
        return within(i, 0, tracker.fitting - 1) ? tracker.toldStart(i) : NONE;
    }

    public int ask(int what) {
        if (!within(what, 0, 1)) {
            return OUTSIDE;
        }
        tracker.gather(now);
        if (tracker.fitting == 0) {
            return NONE;
        }
        tracker.chooseNight();
        return what == 0 ? tracker.bestNight : tracker.mostLeft;
    }

    public int folds(int n, int what) {
        if (!within(n, 0, INCHES) || !within(what, 0, 1)) {
            return OUTSIDE;
        }
        int part = winningPart(n);
        if (what == 0) {
            return part == NONE ? 0 : 1;
        }
        return part;
    }

    public long coffee(int m, int p, int a, int b, int n, int q, int part) {
        boolean placesAsTold = within(m, 0, LAST_PLACE) && within(p, 0, m) && within(q, 0, m);
        boolean tenthsAsTold = within(a, 0, 10) && within(b, 0, 10 - a);
        if (!placesAsTold || !tenthsAsTold || !within(n, 0, COFFEE_NIGHTS) || !within(part, 0, 1)) {
            return LOST + OUTSIDE;
        }
        marsh.pour(p);
        for (int night = 0; night < n; night++) {
            marsh.move(m, a, b);
        }
        long upper = marsh.share(q);
        long common = greatestCommon(marsh.parts, upper);
        if (common == 0) {
            return LOST + OUTSIDE;
        }
        return part == 0 ? upper / common : marsh.parts / common;
    }

    public int year(int seed, int m, int what) {
        if (!within(seed, 0, SEEDS - 1) || !within(m, 1, YEAR_ACTS) || !within(what, 0, 2)) {
            return OUTSIDE;
        }
        spare.become(now);
        int x = seed;
        for (int act = 0; act < m; act++) {
            x = (75 * x + 74) % 65537;
            spare.draw(x % 8, x / 8);
        }
        switch (what) {
            case 0:
                return spare.countOf(HOLE);
            case 1:
                return spare.threadsInAll();
            default:
                return spare.countOf(TOWN);
        }
    }

    public int image(int n) {
        if (!within(n, 0, IMAGES - 1)) {
            return OUTSIDE;
        }
        images[n].become(now);
        kept[n] = true;
        return 1;
    }

    public int restore(int n) {
        if (!within(n, 0, IMAGES - 1)) {
            return OUTSIDE;
        }
        if (!kept[n]) {
            return STATE;
        }
        now.become(images[n]);
        return 1;
    }

    public int told(int what) {
        switch (what) {
            case 0:
                return pad.size;
            case 1:
                return now.mothBits();
            case 2:
                return now.night;
            case 3:
                return now.countOf(HOLE);
            case 4:
                return now.sights;
            default:
                return toldOfOne(what);
        }
    }

    /** What is told of one THREAD, MOTH or CELL. */
    private int toldOfOne(int what) {
        if (isThread(what - 10)) {
            return now.threads[what - 10];
        }
        if (now.isThere(what - 20)) {
            return now.mothCells[what - 20];
        }
        if (now.isThere(what - 30)) {
            return now.mothHeads[what - 30];
        }
        if (isCell(what - 100)) {
            return now.lands[what - 100];
        }
        if (isCell(what - 200)) {
            return now.camphors[what - 200];
        }
        return OUTSIDE;
    }

    /** Tells the NIGHTS on the PAD anew, and whether all of them can be. */
    private boolean nightsCanBe() {
        if (pad.firstWrong() != NONE) {
            return false;
        }
        outcome.tell(pad, now);
        return outcome.why == 0;
    }

    /** The least lesser part that leaves two strips of the same worth, so that who comes next loses. */
    private static int winningPart(int inches) {
        if (inches >= STRIPS.length) {
            return NONE;
        }
        for (int part = 1; part < inches - part; part++) {
            if (STRIPS[part] == STRIPS[inches - part]) {
                return part;
            }
        }
        return NONE;
    }

    private static boolean areFourLands(int lands) {
        if (!within(lands, 0, 9999)) {
            return false;
        }
        return lands / 1000 <= ROAD && lands / 100 % 10 <= ROAD && lands / 10 % 10 <= ROAD && lands % 10 <= ROAD;
    }

    private static long greatestCommon(long a, long b) {
        long greater = a;
        long lesser = b;
        // Euclid's remainders halve every second round, so 128 rounds are enough for any two longs.
        for (int round = 0; round < 128 && lesser != 0; round++) {
            long rest = greater % lesser;
            greater = lesser;
            lesser = rest;
        }
        return greater;
    }

    private static boolean within(int v, int least, int most) {
        return v >= least && v <= most;
    }

    private static boolean isCell(int cell) {
        return cell >= 0 && cell < CELLS;
    }

    private static boolean isMoth(int moth) {
        return moth >= 0 && moth < MOTHS;
    }

    private static boolean isWay(int way) {
        return within(way, 0, WAYS - 1);
    }

    private static boolean isThread(int thread) {
        return within(thread, GREEN, WHITE);
    }

    /** The CELL BESIDE another one to the north 0, east 1, south 2 or west 3; -1 where the MAP ends. */
    private static int beside(int cell, int way) {
        switch (way) {
            case 0:
                return cell >= SIDE ? cell - SIDE : -1;
            case 1:
                return cell % SIDE < SIDE - 1 ? cell + 1 : -1;
            case 2:
                return cell < CELLS - SIDE ? cell + SIDE : -1;
            default:
                return cell % SIDE > 0 ? cell - 1 : -1;
        }
    }

    /** All CELLS (as bits) BESIDE one of some CELLS. */
    private static int allBeside(int cells) {
        int map = (1 << CELLS) - 1;
        int westEdge = 0x108421;
        int eastEdge = westEdge << (SIDE - 1);
        return cells >> SIDE | (cells << SIDE & map) | (cells & ~eastEdge) << 1 | (cells & ~westEdge) >> 1;
    }

    /** All that an IMAGE keeps, and the ACTS that change it. */
    private static final class Duchy {
        static final int NO_MOTH = 1, HEADS_THERE = 2, CAMPHOR_LIES = 3, NO_HOLE = 4, NO_THREAD = 5, NO_NIGHT = 6;

        final int[] lands = new int[CELLS];
        final int[] camphors = new int[CELLS];
        final boolean[] there = new boolean[MOTHS];
        final int[] mothCells = new int[MOTHS];
        final int[] mothHeads = new int[MOTHS];
        final int[] threads = new int[WHITE + 1];
        final int[] sightNights = new int[SIGHTS];
        final int[] sightCells = new int[SIGHTS];
        int sights;
        int night;
        int eaten;

        Duchy() {
            for (int cell = 0; cell < CELLS; cell++) {
                lands[cell] = FIELD;
            }
            for (int thread = GREEN; thread <= WHITE; thread++) {
                threads[thread] = FIRST_THREAD;
            }
            eaten = NONE;
        }

        void become(Duchy other) {
            for (int cell = 0; cell < CELLS; cell++) {
                lands[cell] = other.lands[cell];
                camphors[cell] = other.camphors[cell];
            }
            for (int moth = 0; moth < MOTHS; moth++) {
                there[moth] = other.there[moth];
                mothCells[moth] = other.mothCells[moth];
                mothHeads[moth] = other.mothHeads[moth];
            }
            for (int thread = GREEN; thread <= WHITE; thread++) {
                threads[thread] = other.threads[thread];
            }
            for (int i = 0; i < SIGHTS; i++) {
                sightNights[i] = other.sightNights[i];
                sightCells[i] = other.sightCells[i];
            }
            sights = other.sights;
            night = other.night;
        }

        boolean isThere(int moth) {
            return moth >= 0 && moth < MOTHS && there[moth];
        }

        int mothBits() {
            int bits = 0;
            for (int moth = 0; moth < MOTHS; moth++) {
                bits |= there[moth] ? 1 << moth : 0;
            }
            return bits;
        }

        int mothCellBits() {
            int bits = 0;
            for (int moth = 0; moth < MOTHS; moth++) {
                bits |= there[moth] ? 1 << mothCells[moth] : 0;
            }
            return bits;
        }

        int bitsOf(int land) {
            int bits = 0;
            for (int cell = 0; cell < CELLS; cell++) {
                bits |= lands[cell] == land ? 1 << cell : 0;
            }
            return bits;
        }

        int countOf(int land) {
            return Integer.bitCount(bitsOf(land));
        }

        int threadsInAll() {
            return threads[GREEN] + threads[BLUE] + threads[WHITE];
        }

        /** Four digits: a CELL's LAND, that to its east, those to the south of both; -1 where the MAP ends. */
        int fourLandsFrom(int cell) {
            int east = beside(cell, 1);
            int south = beside(cell, 2);
            if (!isCell(east) || !isCell(south) || !isCell(south + 1)) {
                return -1;
            }
            return 1000 * lands[cell] + 100 * lands[east] + 10 * lands[south] + lands[south + 1];
        }

        boolean addSight(int onNight, int cell) {
            if (sights >= SIGHTS) {
                return false;
            }
            sightNights[sights] = onNight;
            sightCells[sights] = cell;
            sights++;
            return true;
        }

        /** Each of the ACTS answers why it can not be, and is not then; 0 when it was. */
        int turn(int moth, int heads) {
            if (!isThere(moth)) {
                return NO_MOTH;
            }
            if (mothHeads[moth] == heads) {
                return HEADS_THERE;
            }
            mothHeads[moth] = heads;
            return 0;
        }

        int catchMoth(int moth) {
            if (!isThere(moth)) {
                return NO_MOTH;
            }
            there[moth] = false;
            return 0;
        }

        int layCamphor(int cell) {
            if (!isCell(cell) || camphors[cell] >= LAID_CAMPHOR) {
                return CAMPHOR_LIES;
            }
            camphors[cell] = LAID_CAMPHOR;
            return 0;
        }

        int darn(int cell, int thread) {
            if (!isCell(cell) || lands[cell] != HOLE) {
                return NO_HOLE;
            }
            if (!isThread(thread) || threads[thread] == 0) {
                return NO_THREAD;
            }
            threads[thread]--;
            lands[cell] = landBy(thread);
            return 0;
        }

        static int landBy(int thread) {
            switch (thread) {
                case GREEN:
                    return WOOD;
                case BLUE:
                    return WATER;
                default:
                    return ROAD;
            }
        }

        /** A night; the first TOWN that was eaten in it is kept as such (NONE). */
        int passNight() {
            if (night >= LAST_NIGHT) {
                return NO_NIGHT;
            }
            eaten = NONE;
            for (int moth = 0; moth < MOTHS; moth++) {
                if (there[moth]) {
                    fly(moth);
                }
            }
            for (int cell = 0; cell < CELLS; cell++) {
                camphors[cell] = Math.max(0, camphors[cell] - 1);
            }
            night++;
            return 0;
        }

        private void fly(int moth) {
            for (int turns = 0; turns < WAYS; turns++) {
                int heads = (mothHeads[moth] + turns) % WAYS;
                int to = beside(mothCells[moth], heads);
                if (isCell(to) && camphors[to] == 0) {
                    mothHeads[moth] = heads;
                    mothCells[moth] = to;
                    eat(to);
                    return;
                }
            }
        }

        private void eat(int cell) {
            if (lands[cell] == TOWN && eaten == NONE) {
                eaten = cell;
            }
            lands[cell] = HOLE;
        }

        /** One drawn ACT of a YEAR, if it can be. */
        void draw(int kind, int y) {
            switch (kind) {
                case 0:
                    turn(y % MOTHS, y / MOTHS % WAYS);
                    break;
                case 1:
                    layCamphor(y % CELLS);
                    break;
                case 2:
                case 3:
                    darn(y % CELLS, GREEN + y / CELLS % 3);
                    break;
                default:
                    passNight();
                    break;
            }
        }
    }

    /** The PAD, and what may stand on it. */
    private static final class Pad {
        private static final int WRONG = 0, ACT = 1, DEED = 2, CAMPHORED_CELL = 3, DARNED_CELL = 4, DIGIT = 5;

        final int[] signs = new int[PAD_SIGNS];
        int size;

        boolean append(int sign) {
            if (size >= PAD_SIGNS) {
                return false;
            }
            signs[size] = sign;
            size++;
            return true;
        }

        int clear() {
            int were = size;
            size = 0;
            return were;
        }

        int signAt(int place) {
            return place >= 0 && place < size ? signs[place] : 0;
        }

        /** THE FAULT; NONE. */
        int firstWrong() {
            int due = ACT;
            for (int place = 0; place < size; place++) {
                due = dueBehind(due, signAt(place));
                if (due == WRONG) {
                    return place;
                }
            }
            return due == ACT ? NONE : size;
        }

        /** What is due behind a sign that stands where something was due. */
        private static int dueBehind(int due, int sign) {
            switch (due) {
                case ACT:
                    return dueBehindFirst(sign);
                case DEED:
                    return sign == '!' || headOf(sign) >= 0 ? ACT : WRONG;
                case CAMPHORED_CELL:
                    return isCell(sign - 'a') ? ACT : WRONG;
                case DARNED_CELL:
                    return isCell(sign - 'a') ? DIGIT : WRONG;
                default:
                    return isThread(sign - '0') ? ACT : WRONG;
            }
        }

        private static int dueBehindFirst(int sign) {
            switch (sign) {
                case '.':
                    return ACT;
                case '+':
                    return CAMPHORED_CELL;
                case '%':
                    return DARNED_CELL;
                default:
                    return isMoth(sign - 'A') ? DEED : WRONG;
            }
        }

        /** Where a MOTH HEADS by a sign; -1 for other signs. */
        static int headOf(int sign) {
            switch (sign) {
                case 'n':
                    return 0;
                case 'e':
                    return 1;
                case 's':
                    return 2;
                case 'w':
                    return 3;
                default:
                    return -1;
            }
        }

        /** Of how many signs the ACT is that begins with one. */
        static int actLength(int sign) {
            switch (sign) {
                case '.':
                    return 1;
                case '%':
                    return 3;
                default:
                    return 2;
            }
        }
    }

    /** NIGHTS of a PAD without a FAULT, told to the first ACT that can not be. */
    private static final class Nights {
        final Duchy after = new Duchy();
        int acts;
        int why;
        int passed;
        int townNight;
        int town;

        void tell(Pad pad, Duchy from) {
            after.become(from);
            acts = 0;
            why = 0;
            passed = 0;
            townNight = NONE;
            town = NONE;
            int at = 0;
            // No ACT is of less than one sign, so that a full PAD has as many ACTS as signs at the most.
            for (int act = 0; act < PAD_SIGNS && at < pad.size && why == 0; act++) {
                int first = pad.signAt(at);
                why = attempt(first, pad.signAt(at + 1), pad.signAt(at + 2));
                if (why == 0) {
                    note(first);
                }
                at += Pad.actLength(first);
            }
        }

        private int attempt(int first, int second, int third) {
            switch (first) {
                case '.':
                    return after.passNight();
                case '+':
                    return after.layCamphor(second - 'a');
                case '%':
                    return after.darn(second - 'a', third - '0');
                default:
                    return attemptDeed(first - 'A', second);
            }
        }

        private int attemptDeed(int moth, int sign) {
            return sign == '!' ? after.catchMoth(moth) : after.turn(moth, Pad.headOf(sign));
        }

        /** Counts an ACT that was, by its first sign. */
        private void note(int first) {
            acts++;
            if (first != '.') {
                return;
            }
            if (town == NONE && after.eaten != NONE) {
                town = after.eaten;
                townNight = passed;
            }
            passed++;
        }
    }

    /** ROADS by the least cost: first the fewest HOLES, then the fewest steps. */
    private static final class Roads {
        // A ROAD has 24 steps at most, so that one HOLE outweighs all of them.
        static final int HOLE_COST = 100;
        static final int FAR = 1000000;

        private final int[] costs = new int[CELLS];
        private final boolean[] settled = new boolean[CELLS];

        /** HOLE_COST for each HOLE on the way, both ends too, and 1 for each step; FAR if there is no way. */
        int leastCost(int[] lands, int from, int to) {
            for (int cell = 0; cell < CELLS; cell++) {
                costs[cell] = FAR;
                settled[cell] = false;
            }
            costs[from] = costOfLand(lands[from]);
            for (int round = 0; round < CELLS; round++) {
                int cell = nearest();
                if (!isCell(cell) || cell == to) {
                    break;
                }
                settled[cell] = true;
                spreadFrom(cell, lands);
            }
            return costs[to];
        }

        private static int costOfLand(int land) {
            if (land == WATER) {
                return FAR;
            }
            return land == HOLE ? HOLE_COST : 0;
        }

        private int nearest() {
            int best = -1;
            int least = FAR;
            for (int cell = 0; cell < CELLS; cell++) {
                if (!settled[cell] && costs[cell] < least) {
                    best = cell;
                    least = costs[cell];
                }
            }
            return best;
        }

        private void spreadFrom(int cell, int[] lands) {
            for (int way = 0; way < WAYS; way++) {
                int to = beside(cell, way);
                if (isCell(to)) {
                    costs[to] = Math.min(costs[to], costs[cell] + 1 + costOfLand(lands[to]));
                }
            }
        }
    }

    /** The ministry of CAMPHOR: the fewest CELLS that part a CELL from all MOTHS. */
    private static final class Ministry {
        // The CELLS beside the harbour always do, where no MOTH is among them.
        private static final int MOST_CELLS = 4;

        private final int[] rings = new int[CELLS + 1];
        private int moths;
        private int harbour;
        private int best;

        /** The CELLS as bits, the least number of as few; NONE if a MOTH is there or BESIDE it. */
        int leastCells(int mothCells, int harbourBit) {
            moths = mothCells;
            harbour = harbourBit;
            if ((moths & (harbour | allBeside(harbour))) != 0) {
                return NONE;
            }
            best = NONE;
            for (int few = 0; few <= MOST_CELLS && best == NONE; few++) {
                search(0, 0, few);
            }
            return best;
        }

        /**
         * Each set that parts them has a CELL of any way that is still open: one CELL of
         * that way after another is taken, and left free in all that is tried behind it.
         */
        private void search(int taken, int free, int left) {
            int way = openWay(taken);
            if (way == 0) {
                best = best == NONE ? taken : Math.min(best, taken);
                return;
            }
            if (left <= 0) {
                return;
            }
            int nowFree = free;
            for (int cell = 0; cell < CELLS; cell++) {
                int bit = 1 << cell;
                if ((way & ~free & bit) != 0) {
                    search(taken | bit, nowFree, left - 1);
                    nowFree |= bit;
                }
            }
        }

        /** The CELLS between on a shortest way from a MOTH to the harbour; 0 if there is none. */
        private int openWay(int taken) {
            int reached = moths;
            rings[0] = moths;
            for (int steps = 1; steps <= CELLS; steps++) {
                int ring = allBeside(rings[steps - 1]) & ~reached & ~taken;
                if (ring == 0) {
                    return 0;
                }
                if ((ring & harbour) != 0) {
                    return wayBack(steps);
                }
                rings[steps] = ring;
                reached |= ring;
            }
            return 0;
        }

        private int wayBack(int steps) {
            int way = 0;
            int at = harbour;
            for (int ring = steps - 1; ring >= 1 && ring <= CELLS; ring--) {
                at = Integer.lowestOneBit(allBeside(at) & rings[ring]);
                way |= at;
            }
            return way;
        }
    }

    /** How all HOLES may be darned: no two BESIDE each other alike, none blue BESIDE a TOWN. */
    private static final class Darner {
        private final int[] woven = new int[WHITE + 1];
        private final int[] tied = new int[DARNED_HOLES];
        private int ties;
        private int holes;
        private int byTowns;
        int ways;
        int first;

        /** Sets the ways, and the first of them, for HOLES and TOWNS as bits. */
        void darn(int holeBits, int townBits) {
            holes = holeBits;
            byTowns = allBeside(townBits);
            first = NONE;
            int loneWays = partHoles();
            ways = loneWays * waysFrom(0);
        }

        /** A HOLE with none BESIDE it is free of all others: only the tied ones are tried one by one. */
        private int partHoles() {
            for (int thread = GREEN; thread <= WHITE; thread++) {
                woven[thread] = 0;
            }
            ties = 0;
            int loneWays = 1;
            for (int cell = 0; cell < CELLS; cell++) {
                int bit = 1 << cell;
                if ((holes & bit) == 0) {
                    continue;
                }
                if ((allBeside(bit) & holes) == 0) {
                    woven[GREEN] |= bit;
                    loneWays *= (byTowns & bit) == 0 ? 3 : 2;
                } else if (ties < DARNED_HOLES) {
                    tied[ties] = bit;
                    ties++;
                }
            }
            return loneWays;
        }

        private int waysFrom(int tie) {
            if (tie < 0 || tie >= ties) {
                first = first == NONE ? digits() : first;
                return 1;
            }
            int bit = tied[tie];
            int near = allBeside(bit);
            int count = 0;
            for (int thread = GREEN; thread <= WHITE; thread++) {
                boolean blueByTown = thread == BLUE && (byTowns & bit) != 0;
                if (!blueByTown && (woven[thread] & near) == 0) {
                    woven[thread] |= bit;
                    count += waysFrom(tie + 1);
                    woven[thread] &= ~bit;
                }
            }
            return count;
        }

        private int digits() {
            int number = 0;
            for (int cell = 0; cell < CELLS; cell++) {
                int bit = 1 << cell;
                if ((holes & bit) != 0) {
                    number = 10 * number + threadOf(bit);
                }
            }
            return number;
        }

        private int threadOf(int bit) {
            if ((woven[GREEN] & bit) != 0) {
                return GREEN;
            }
            return (woven[BLUE] & bit) != 0 ? BLUE : WHITE;
        }
    }

    /** Where a MOTH began, by SIGHTS: a stand is 4 times its CELL and where it HEADS. */
    private static final class Tracker {
        private static final int STANDS = 100;
        private static final int UNSEEN = -1, AT_ODDS = -2;

        private final int[] next = new int[STANDS];
        private final int[] starts = new int[STANDS];
        private final int[] stands = new int[STANDS];
        private final int[] cellsSeen = new int[SIGHT_NIGHTS];
        private final int[] inCell = new int[CELLS];
        int fitting;
        int bestNight;
        int mostLeft;

        Tracker() {
            for (int stand = 0; stand < STANDS; stand++) {
                next[stand] = standBehind(stand);
            }
        }

        /** Where a stand leads in a night without CAMPHOR. */
        private static int standBehind(int stand) {
            for (int turns = 0; turns < WAYS; turns++) {
                int heads = (stand + turns) % WAYS;
                int to = beside(stand / WAYS, heads);
                if (isCell(to)) {
                    return WAYS * to + heads;
                }
            }
            return stand;
        }

        /** Keeps the starts, rising, by which all SIGHTS are so. */
        void gather(Duchy duchy) {
            readSights(duchy);
            fitting = 0;
            for (int start = 0; start < STANDS; start++) {
                if (fits(start)) {
                    starts[fitting] = start;
                    fitting++;
                }
            }
        }

        private void readSights(Duchy duchy) {
            for (int night = 0; night < SIGHT_NIGHTS; night++) {
                cellsSeen[night] = UNSEEN;
            }
            for (int i = 0; i < SIGHTS && i < duchy.sights; i++) {
                int night = duchy.sightNights[i];
                int cell = duchy.sightCells[i];
                if (!within(night, 0, SIGHT_NIGHTS - 1)) {
                    continue;
                }
                boolean agrees = cellsSeen[night] == UNSEEN || cellsSeen[night] == cell;
                cellsSeen[night] = agrees ? cell : AT_ODDS;
            }
        }

        private boolean fits(int start) {
            int stand = start;
            for (int night = 0; night < SIGHT_NIGHTS; night++) {
                if (cellsSeen[night] != UNSEEN && cellsSeen[night] != stand / WAYS) {
                    return false;
                }
                stand = next[stand];
            }
            return true;
        }

        /** Ten times the CELL, and where it HEADED, of a start that fits. */
        int toldStart(int i) {
            int start = i >= 0 && i < STANDS ? starts[i] : 0;
            return start / WAYS * 10 + start % WAYS;
        }

        /** Sets the night by which fewest starts are left at the most, and how many. */
        void chooseNight() {
            for (int i = 0; i < fitting; i++) {
                stands[i] = starts[i];
            }
            bestNight = 0;
            mostLeft = STANDS + 1;
            for (int night = 0; night < SIGHT_NIGHTS; night++) {
                int most = mostInOneCell();
                if (most < mostLeft) {
                    mostLeft = most;
                    bestNight = night;
                }
                for (int i = 0; i < fitting; i++) {
                    stands[i] = next[stands[i]];
                }
            }
        }

        private int mostInOneCell() {
            for (int cell = 0; cell < CELLS; cell++) {
                inCell[cell] = 0;
            }
            int most = 0;
            for (int i = 0; i < fitting; i++) {
                int cell = stands[i] / WAYS;
                inCell[cell]++;
                most = Math.max(most, inCell[cell]);
            }
            return most;
        }
    }

    /** COFFEE in equal parts: how many of all parts are in each place. */
    private static final class Marsh {
        private final long[] shares = new long[LAST_PLACE + 1];
        private final long[] moved = new long[LAST_PLACE + 1];
        long parts;

        void pour(int place) {
            for (int i = 0; i <= LAST_PLACE; i++) {
                shares[i] = i == place ? 1 : 0;
            }
            parts = 1;
        }

        /** A night: ten times as many parts, of which a and b of each ten go east and west. */
        void move(int lastPlace, int a, int b) {
            for (int i = 0; i <= LAST_PLACE; i++) {
                moved[i] = 0;
            }
            for (int i = 0; i <= lastPlace && i <= LAST_PLACE; i++) {
                moved[Math.min(i + 1, lastPlace)] += a * shares[i];
                moved[Math.max(i - 1, 0)] += b * shares[i];
                moved[i] += (10 - a - b) * shares[i];
            }
            for (int i = 0; i <= LAST_PLACE; i++) {
                shares[i] = moved[i];
            }
            parts *= 10;
        }

        long share(int place) {
            return place >= 0 && place <= LAST_PLACE ? shares[place] : 0;
        }
    }
}
