/** Farms on the slope of a volcano that is fed with pigs: what each call does stands in the document's promises. */
public final class MountainFarms {
    private static final int SIDE = 6;
    private static final int CELLS = 36;
    private static final int WAYS = 4;
    private static final int KINDS = 6;
    private static final int OWNERS = 6;
    private static final int STATES = 4;
    private static final int SIGNS = 4;
    private static final int ERUPTING = 3;
    private static final int TENTHS = 10;

    private static final int MOST = 99;
    private static final int MOST_FARMS = 12;
    private static final int MOST_SEEN = 6;
    private static final int MOST_ON = 240;
    private static final int MOST_YEARS = 50;
    private static final int LAST_MONTH = 9999;
    private static final int TAPE_BYTES = 120;
    private static final int SHEETS = 4;
    private static final int SHEET_NUMBERS = 40;

    private static final int BEYOND = 0;
    private static final int FULL = 1;
    private static final int KIND = 2;
    private static final int NONE = 3;
    private static final int STATE = 4;
    private static final int MISSING = 5;
    private static final int SIZE = 6;
    private static final int FINDINGS = 7;
    private static final int FIRST_FINDING = -1000000001;

    /** The kind that each kind is under; -1 is above all. */
    private static final int[] UNDER = {-1, 0, 0, 1, 0, 2};

    private final Slope here = new Slope();
    private final Slope kept = new Slope();
    /** What is only asked for is tried out on this one, so that nothing of here has to be put back. */
    private final Slope trial = new Slope();
    private final Parts parts = new Parts();
    private final SlopeText text = new SlopeText();
    private final Sheet[] sheets = {new Sheet(), new Sheet(), new Sheet(), new Sheet()};
    private final int[] findings = new int[FINDINGS];
    private boolean isKept = false;

    public MountainFarms() {
    }

    // ---- the slope

    public int set(int cell, int what, int v) {
        if (!isCell(cell) || !isWithin(what, 0, 1) || !isWithin(v, 0, MOST)) {
            return finding(BEYOND);
        }
        int[] row = what == 0 ? here.ground.heights : here.ground.ages;
        int was = row[cell];
        row[cell] = v;
        return was;
    }

    public int cellOf(int cell, int what) {
        if (!isCell(cell)) {
            return finding(BEYOND);
        }
        switch (what) {
            case 0: return here.ground.heights[cell];
            case 1: return here.ground.ages[cell];
            case 2: return here.farms.farmOn(cell);
            case 3: return here.ground.walls[cell];
            default: return finding(BEYOND);
        }
    }

    public int vent(int cell) {
        if (!isCell(cell)) {
            return finding(BEYOND);
        }
        int was = here.ground.vent;
        here.ground.vent = cell;
        return was;
    }

    public int wall(int one, int other, boolean is) {
        int way = wayTo(one, other);
        if (way < 0) {
            return finding(BEYOND);
        }
        if (here.ground.isWalled(one, way) == is) {
            return 0;
        }
        here.ground.putWall(one, way, is);
        return 1;
    }

    // ---- farms

    public int farm(int kind, int cell, int owner) {
        if (!isKind(kind) || !isCell(cell) || !isOwner(owner)) {
            return finding(BEYOND);
        }
        if (here.farms.farmOn(cell) >= 0) {
            return finding(STATE);
        }
        if (here.farms.isFull()) {
            return finding(FULL);
        }
        return here.farms.add(kind, cell, owner);
    }

    public int of(int farm, int what) {
        if (!here.farms.has(farm)) {
            return finding(BEYOND);
        }
        switch (what) {
            case 0: return here.farms.kinds[farm];
            case 1: return here.farms.cells[farm];
            case 2: return here.farms.owners[farm];
            case 3: return here.farms.purses[farm];
            case 4: return here.farms.isBurnt(farm) ? 1 : 0;
            case 5: return here.farms.bearsOn(farm, here.ground);
            default: return finding(BEYOND);
        }
    }

    public int sow(int farm, int kind) {
        if (!here.farms.has(farm) || !isKind(kind)) {
            return finding(BEYOND);
        }
        int was = here.farms.kinds[farm];
        here.farms.kinds[farm] = kind;
        return was;
    }

    public int as(int farm, int kind) {
        if (!here.farms.has(farm) || !isKind(kind)) {
            return finding(BEYOND);
        }
        if (!isOfKind(here.farms.kinds[farm], kind)) {
            return finding(KIND);
        }
        return here.farms.cells[farm];
    }

    public int build(int farm) {
        if (!here.farms.has(farm)) {
            return finding(BEYOND);
        }
        if (!here.farms.isBurnt(farm)) {
            return finding(STATE);
        }
        here.farms.burnt &= ~(1 << farm);
        here.farms.purses[farm] -= 20;
        return here.farms.purses[farm];
    }

    public int coins(int owner) {
        if (!isOwner(owner)) {
            return finding(BEYOND);
        }
        return here.farms.coinsOf(owner);
    }

    public int best(int farm) {
        if (!here.farms.has(farm)) {
            return finding(BEYOND);
        }
        int age = here.ground.ageOf(here.farms.cells[farm]);
        int best = 0;
        for (int kind = 1; kind < KINDS; kind++) {
            if (bearing(kind, age, here.ground.ash) > bearing(best, age, here.ground.ash)) {
                best = kind;
            }
        }
        return best;
    }

    public int harvest(int kind, int cell, int n) {
        if (!isKind(kind) || !isCell(cell) || !isWithin(n, 0, MOST_YEARS)) {
            return finding(BEYOND);
        }
        int sum = 0;
        for (int year = 0; year < n; year++) {
            int age = Math.min(MOST, here.ground.ageOf(cell) + year);
            int ash = Math.min(MOST, here.ground.ash + year);
            sum += bearing(kind, age, ash);
        }
        return sum;
    }

    // ---- the mountain

    public int tenths(int what, int state, int a, int b, int c) {
        if (!isWithin(what, 0, 1) || !isState(state)) {
            return finding(BEYOND);
        }
        // Each is looked at against what the ones ahead leave, so that no sum can go round.
        if (!isWithin(a, 0, TENTHS) || !isWithin(b, 0, TENTHS - a) || !isWithin(c, 0, TENTHS - a - b)) {
            return finding(BEYOND);
        }
        int was = here.mountain.tenthAt(what, state, 0);
        here.mountain.putTenth(what, state, 0, a);
        here.mountain.putTenth(what, state, 1, b);
        here.mountain.putTenth(what, state, 2, c);
        here.mountain.putTenth(what, state, 3, TENTHS - a - b - c);
        return was;
    }

    public int tenth(int what, int state, int i) {
        if (!isWithin(what, 0, 1) || !isState(state) || !isWithin(i, 0, STATES - 1)) {
            return finding(BEYOND);
        }
        return here.mountain.tenthAt(what, state, i);
    }

    public int sees(int sign) {
        if (!isSign(sign)) {
            return finding(BEYOND);
        }
        if (here.mountain.isDiaryFull()) {
            return finding(FULL);
        }
        here.mountain.addSign(sign);
        return here.mountain.seen;
    }

    public int burn() {
        int were = here.mountain.seen;
        here.mountain.seen = 0;
        return were;
    }

    public long weight(int state) {
        if (!isWithin(state, -1, STATES - 1)) {
            return finding(BEYOND);
        }
        parts.weigh(here.mountain);
        return state < 0 ? parts.all() : parts.rows[state];
    }

    public int likeliest() {
        parts.weigh(here.mountain);
        if (parts.all() == 0) {
            return finding(NONE);
        }
        int likeliest = 0;
        for (int state = 1; state < STATES; state++) {
            if (parts.rows[state] > parts.rows[likeliest]) {
                likeliest = state;
            }
        }
        return likeliest;
    }

    public int flee(int p) {
        if (!isWithin(p, 0, TENTHS)) {
            return finding(BEYOND);
        }
        parts.weigh(here.mountain);
        long all = parts.all();
        if (all == 0) {
            return finding(NONE);
        }
        return TENTHS * (parts.rows[2] + parts.rows[3]) >= p * all ? 1 : 0;
    }

    public int dread() {
        if (here.mountain.isDiaryFull()) {
            return finding(NONE);
        }
        int worst = -1;
        long most = -1;
        for (int sign = 0; sign < SIGNS; sign++) {
            parts.weigh(here.mountain);
            parts.see(here.mountain, sign);
            long all = parts.all();
            long share = all > 0 ? 1000 * parts.rows[ERUPTING] / all : -1;
            if (share > most) {
                most = share;
                worst = sign;
            }
        }
        return worst < 0 ? finding(NONE) : worst;
    }

    // ---- lava

    public long flow(int cell, int volume) {
        if (!isCell(cell) || !isVolume(volume)) {
            return finding(BEYOND);
        }
        trial.ground.become(here.ground);
        return trial.ground.lavaFrom(cell, volume);
    }

    public int hit(int volume) {
        if (!isVolume(volume)) {
            return finding(BEYOND);
        }
        return hitWith(-1, 0, volume);
    }

    public int least(int farm) {
        if (!here.farms.has(farm)) {
            return finding(BEYOND);
        }
        if (here.farms.isBurnt(farm)) {
            return finding(STATE);
        }
        trial.ground.become(here.ground);
        int volume = trial.ground.leastVolumeTo(here.farms.cells[farm]);
        return volume < 0 ? finding(NONE) : volume;
    }

    public int turnsOn(int one, int other, int volume) {
        int way = wayTo(one, other);
        if (way < 0 || !isVolume(volume)) {
            return finding(BEYOND);
        }
        if (here.ground.isWalled(one, way)) {
            return finding(STATE);
        }
        return hitWith(one, way, volume) & ~hitWith(-1, 0, volume);
    }

    public int save(int volume) {
        if (!isVolume(volume)) {
            return finding(BEYOND);
        }
        int fewest = Integer.bitCount(hitWith(-1, 0, volume));
        int wall = -1;
        // Ways 1 and 2 lead to greater cells, 1 to the nearer one: the walls come by their numbers.
        for (int cell = 0; cell < CELLS; cell++) {
            for (int way = 1; way <= 2; way++) {
                int other = beside(cell, way);
                if (other < 0 || here.ground.isWalled(cell, way)) {
                    continue;
                }
                int hits = Integer.bitCount(hitWith(cell, way, volume));
                if (hits < fewest) {
                    fewest = hits;
                    wall = 100 * cell + other;
                }
            }
        }
        return wall < 0 ? finding(NONE) : wall;
    }

    // ---- months

    public int volume(int v) {
        if (!isVolume(v)) {
            return finding(BEYOND);
        }
        int was = here.volume;
        here.volume = v;
        return was;
    }

    public int pigs(boolean is) {
        if (here.arePigsTold == is) {
            return 0;
        }
        here.arePigsTold = is;
        return 1;
    }

    public int months(int n) {
        if (!isWithin(n, 1, MOST_ON)) {
            return finding(BEYOND);
        }
        if (here.month + n > LAST_MONTH) {
            return finding(STATE);
        }
        return here.goMonths(n);
    }

    public int seed(int v) {
        int was = here.mountain.z;
        here.mountain.z = v;
        return was;
    }

    public int now(int what) {
        switch (what) {
            case 0: return here.month;
            case 1: return here.mountain.state;
            case 2: return here.ground.vent;
            case 3: return here.ground.ash;
            case 4: return here.volume;
            case 5: return here.outs;
            case 6: return here.fed;
            case 7: return here.fedOuts;
            default: return finding(BEYOND);
        }
    }

    public int doPigs() {
        if (here.fed == 0 || here.fed == here.month) {
            return finding(NONE);
        }
        // Two quotients are compared crosswise, so that nothing is cut.
        long without = (long) (here.outs - here.fedOuts) * here.fed;
        long with = (long) here.fedOuts * (here.month - here.fed);
        return Long.compare(without, with);
    }

    public int out() {
        if (here.month + MOST_ON > LAST_MONTH) {
            return finding(STATE);
        }
        trial.become(here);
        for (int n = 1; n <= MOST_ON; n++) {
            if (trial.goMonth()) {
                return n;
            }
        }
        return finding(NONE);
    }

    public int on(int n, int what) {
        if (!isWithin(n, 0, MOST_ON) || !isWithin(what, 0, 2)) {
            return finding(BEYOND);
        }
        if (here.month + n > LAST_MONTH) {
            return finding(STATE);
        }
        trial.become(here);
        trial.goMonths(n);
        switch (what) {
            case 0: return trial.farms.burnt;
            case 1: return trial.farms.allCoins();
            default: return trial.mountain.state;
        }
    }

    public int crop(int n) {
        if (!isWithin(n, 1, MOST_ON)) {
            return finding(BEYOND);
        }
        if (here.month + n > LAST_MONTH) {
            return finding(STATE);
        }
        int best = 0;
        int most = 0;
        for (int kind = 0; kind < KINDS; kind++) {
            trial.become(here);
            trial.farms.sowAll(kind);
            trial.goMonths(n);
            int brings = trial.farms.allCoins();
            if (kind == 0 || brings > most) {
                most = brings;
                best = kind;
            }
        }
        return best;
    }

    // ---- the text

    public int feed(int bytes, int n) {
        if (!isWithin(n, 1, 4)) {
            return finding(BEYOND);
        }
        if (text.tape.size + n > TAPE_BYTES) {
            return finding(FULL);
        }
        for (int i = n - 1; i >= 0; i--) {
            text.tape.append(bytes >>> (8 * i) & 255);
        }
        return text.tape.size;
    }

    public int wipe() {
        int had = text.tape.size;
        text.tape.size = 0;
        return had;
    }

    public int slope() {
        trial.become(here);
        int answer = text.readAll(trial);
        if (answer > 0) {
            here.become(trial);
        }
        text.tape.size = 0;
        return answer;
    }

    // ---- sheets

    public int sheet(int s, int bits, int n) {
        if (!isSheet(s) || !(bits == 0 || bits == 8 || bits == 16 || bits == 64)) {
            return finding(BEYOND);
        }
        if (n < 0) {
            return finding(SIZE);
        }
        if (n > SHEET_NUMBERS) {
            return finding(BEYOND);
        }
        sheets[s].lay(bits, n);
        return sheets[s].size;
    }

    public long write(int s, int i, long v) {
        if (!isSheet(s)) {
            return finding(BEYOND);
        }
        if (sheets[s].isMissing()) {
            return finding(MISSING);
        }
        if (!isWithin(i, 0, sheets[s].size - 1)) {
            return finding(BEYOND);
        }
        long was = sheets[s].numbers[i];
        sheets[s].put(i, v);
        return was;
    }

    public int copy(int s, int from, int t, int to, int n) {
        if (!isSheet(s) || !isSheet(t)) {
            return finding(BEYOND);
        }
        if (sheets[s].isMissing() || sheets[t].isMissing()) {
            return finding(MISSING);
        }
        if (sheets[s].bits != sheets[t].bits) {
            return finding(KIND);
        }
        if (!sheets[s].hasRun(from, n) || !sheets[t].hasRun(to, n)) {
            return finding(BEYOND);
        }
        System.arraycopy(sheets[s].numbers, from, sheets[t].numbers, to, n);
        return n;
    }

    public int lays(int s) {
        if (!isSheet(s)) {
            return finding(BEYOND);
        }
        if (sheets[s].isMissing()) {
            return finding(MISSING);
        }
        int came = 0;
        for (int cell = 0; cell < CELLS && cell < sheets[s].size; cell++) {
            long height = sheets[s].numbers[cell];
            if (height >= 0 && height <= MOST) {
                here.ground.heights[cell] = (int) height;
                came++;
            }
        }
        return came;
    }

    public int book(int s) {
        if (!isSheet(s)) {
            return finding(BEYOND);
        }
        if (sheets[s].isMissing()) {
            return finding(MISSING);
        }
        int came = Math.min(here.farms.number, sheets[s].size);
        for (int farm = 0; farm < came; farm++) {
            sheets[s].put(farm, here.farms.purses[farm]);
        }
        return came;
    }

    public int read(int s) {
        if (!isSheet(s)) {
            return finding(BEYOND);
        }
        if (sheets[s].isMissing()) {
            return finding(MISSING);
        }
        if (here.month + SHEET_NUMBERS > LAST_MONTH) {
            return finding(STATE);
        }
        trial.become(here);
        for (int i = 0; i < sheets[s].size; i++) {
            if (sheets[s].numbers[i] != trial.mountain.state) {
                return 1 + i;
            }
            trial.goMonth();
        }
        return 0;
    }

    // ---- images

    public int image() {
        kept.become(here);
        isKept = true;
        return 1;
    }

    public int undo() {
        if (!isKept) {
            return finding(NONE);
        }
        here.become(kept);
        return here.farms.number;
    }

    public int tear() {
        int were = isKept ? 1 : 0;
        isKept = false;
        return were;
    }

    public int count(int what) {
        switch (what) {
            case 0: return here.farms.number;
            case 1: return Integer.bitCount(here.farms.burnt);
            case 2: return here.ground.countWalls();
            case 3: return text.tape.size;
            case 4: return here.mountain.seen;
            case 5: return here.mountain.z;
            default: return finding(BEYOND);
        }
    }

    public int status(int which) {
        if (!isWithin(which, -1, FINDINGS - 1)) {
            return finding(BEYOND);
        }
        if (which >= 0) {
            return findings[which];
        }
        int all = 0;
        for (int told : findings) {
            all += told;
        }
        return all;
    }

    private int finding(int which) {
        if (isWithin(which, 0, FINDINGS - 1)) {
            findings[which]++;
        }
        return FIRST_FINDING - which;
    }

    /** The farms that are hit, with one wall more if there is a cell for it (-1: without). */
    private int hitWith(int cell, int way, int volume) {
        trial.ground.become(here.ground);
        if (cell >= 0) {
            trial.ground.putWall(cell, way, true);
        }
        long came = trial.ground.lavaFrom(trial.ground.vent, volume);
        return here.farms.standingOn(came) & ~here.farms.burnt;
    }

    private static boolean isWithin(int v, int least, int most) {
        return v >= least && v <= most;
    }

    private static boolean isCell(int cell) {
        return cell >= 0 && cell < CELLS;
    }

    private static boolean isKind(int kind) {
        return isWithin(kind, 0, KINDS - 1);
    }

    private static boolean isOwner(int owner) {
        return isWithin(owner, 0, OWNERS - 1);
    }

    private static boolean isState(int state) {
        return isWithin(state, 0, STATES - 1);
    }

    private static boolean isSign(int sign) {
        return isWithin(sign, 0, SIGNS - 1);
    }

    private static boolean isVolume(int volume) {
        return isWithin(volume, 1, MOST);
    }

    private static boolean isSheet(int s) {
        return isWithin(s, 0, SHEETS - 1);
    }

    /** The cell beside one in a way; -1 where the slope ends. */
    private static int beside(int cell, int way) {
        if (cell < 0 || cell >= CELLS) {
            return -1;
        }
        int row = cell / SIDE;
        int column = cell % SIDE;
        switch (way) {
            case 0: return row > 0 ? cell - SIDE : -1;
            case 1: return column < SIDE - 1 ? cell + 1 : -1;
            case 2: return row < SIDE - 1 ? cell + SIDE : -1;
            case 3: return column > 0 ? cell - 1 : -1;
            default: return -1;
        }
    }

    /** The way from one cell to another one; -1 if they aren't beside. */
    private static int wayTo(int one, int other) {
        if (!isCell(one) || !isCell(other)) {
            return -1;
        }
        for (int way = 0; way < WAYS; way++) {
            if (beside(one, way) == other) {
                return way;
            }
        }
        return -1;
    }

    private static boolean isOfKind(int is, int kind) {
        int above = is;
        for (int up = 0; up < KINDS; up++) {
            if (above == kind) {
                return true;
            }
            if (!isKind(above)) {
                return false;
            }
            above = UNDER[above];
        }
        return false;
    }

    /** What a kind bears on ground of an age, so many years after ash fell. */
    private static int bearing(int kind, int age, int ash) {
        int byGround = age >= 5 ? 10 : 0;
        int byAsh = ash < 10 ? 2 * (10 - ash) : 0;
        int byAge = Math.min(25, age / 2);
        switch (kind) {
            case 1: return byGround + byAsh;
            case 2: return byGround + byAge;
            case 3: return byGround + byAsh + 3;
            case 4: return 6;
            case 5: return byGround + byAge + (age >= 50 ? 10 : 0);
            default: return byGround;
        }
    }

    /** The cells, the walls between them, and what lies on them. */
    private static final class Ground {
        final int[] heights = new int[CELLS];
        final int[] ages = new int[CELLS];
        /** For each cell the ways in which there is a wall; a wall stands in the sets of both its cells. */
        final int[] walls = new int[CELLS];
        int vent = 14;
        int ash = MOST;

        Ground() {
            for (int cell = 0; cell < CELLS; cell++) {
                int rows = Math.abs(cell / SIDE - vent / SIDE);
                int columns = Math.abs(cell % SIDE - vent % SIDE);
                heights[cell] = Math.max(0, 50 - 5 * (rows + columns));
                ages[cell] = 20;
            }
        }

        void become(Ground other) {
            System.arraycopy(other.heights, 0, heights, 0, CELLS);
            System.arraycopy(other.ages, 0, ages, 0, CELLS);
            System.arraycopy(other.walls, 0, walls, 0, CELLS);
            vent = other.vent;
            ash = other.ash;
        }

        int ageOf(int cell) {
            return isCell(cell) ? ages[cell] : 0;
        }

        boolean isWalled(int cell, int way) {
            return cell >= 0 && cell < CELLS && (walls[cell] >> way & 1) == 1;
        }

        void putWall(int cell, int way, boolean is) {
            int other = beside(cell, way);
            if (other < 0) {
                return;
            }
            int there = 1 << way;
            int back = 1 << (way + 2) % WAYS;
            walls[cell] = is ? walls[cell] | there : walls[cell] & ~there;
            walls[other] = is ? walls[other] | back : walls[other] & ~back;
        }

        int countWalls() {
            int sides = 0;
            for (int ways : walls) {
                sides += Integer.bitCount(ways);
            }
            return sides / 2;
        }

        /** Lets lava of a volume flow and leaves the heights as they are behind it: the cells to which it came. */
        long lavaFrom(int cell, int volume) {
            int at = cell;
            long came = 1L << at;
            for (int step = 1; step < volume; step++) {
                at = lavaGoesOn(at);
                came |= 1L << at;
            }
            return came;
        }

        /** The least volume by which lava from the vent comes to a cell; -1 if none does. */
        int leastVolumeTo(int cell) {
            int at = vent;
            for (int volume = 1; volume <= MOST; volume++) {
                if (at == cell) {
                    return volume;
                }
                at = lavaGoesOn(at);
            }
            return -1;
        }

        void coolDown(long came) {
            for (int cell = 0; cell < CELLS; cell++) {
                if ((came >> cell & 1) == 1) {
                    ages[cell] = 0;
                }
            }
            ash = 0;
        }

        void growOlder() {
            for (int cell = 0; cell < CELLS; cell++) {
                ages[cell] = Math.min(MOST, ages[cell] + 1);
            }
            ash = Math.min(MOST, ash + 1);
        }

        /** Where the lava at a cell is next: on the lowest cell below it, or there, where it piles up. */
        private int lavaGoesOn(int at) {
            if (!isCell(at)) {
                return at;
            }
            int next = at;
            for (int way = 0; way < WAYS; way++) {
                int other = beside(at, way);
                if (other >= 0 && !isWalled(at, way) && heights[other] < heights[next]) {
                    next = other;
                }
            }
            if (next == at) {
                heights[at] = Math.min(MOST, heights[at] + 3);
            }
            return next;
        }
    }

    /** All farms, each a place in the rows. */
    private static final class Farms {
        final int[] kinds = new int[MOST_FARMS];
        final int[] cells = new int[MOST_FARMS];
        final int[] owners = new int[MOST_FARMS];
        final int[] purses = new int[MOST_FARMS];
        int number = 0;
        /** Those that are burnt, as a set. */
        int burnt = 0;

        void become(Farms other) {
            System.arraycopy(other.kinds, 0, kinds, 0, MOST_FARMS);
            System.arraycopy(other.cells, 0, cells, 0, MOST_FARMS);
            System.arraycopy(other.owners, 0, owners, 0, MOST_FARMS);
            System.arraycopy(other.purses, 0, purses, 0, MOST_FARMS);
            number = other.number;
            burnt = other.burnt;
        }

        boolean has(int farm) {
            return farm >= 0 && farm < number;
        }

        boolean isBurnt(int farm) {
            return (burnt >> farm & 1) == 1;
        }

        boolean isFull() {
            return number >= MOST_FARMS;
        }

        int farmOn(int cell) {
            for (int farm = 0; farm < number; farm++) {
                if (cells[farm] == cell) {
                    return farm;
                }
            }
            return -1;
        }

        /** Puts a farm behind the others: its number; -1 if there is no room. */
        int add(int kind, int cell, int owner) {
            if (isFull()) {
                return -1;
            }
            kinds[number] = kind;
            cells[number] = cell;
            owners[number] = owner;
            purses[number] = 0;
            number++;
            return number - 1;
        }

        void sowAll(int kind) {
            for (int farm = 0; farm < number; farm++) {
                kinds[farm] = kind;
            }
        }

        int bearsOn(int farm, Ground ground) {
            return isBurnt(farm) ? 0 : bearing(kinds[farm], ground.ageOf(cells[farm]), ground.ash);
        }

        void earnOn(Ground ground) {
            for (int farm = 0; farm < number; farm++) {
                purses[farm] += bearsOn(farm, ground);
            }
        }

        int coinsOf(int owner) {
            int sum = 0;
            for (int farm = 0; farm < number; farm++) {
                if (owners[farm] == owner) {
                    sum += purses[farm];
                }
            }
            return sum;
        }

        int allCoins() {
            int sum = 0;
            for (int farm = 0; farm < number; farm++) {
                sum += purses[farm];
            }
            return sum;
        }

        /** The farms on a set of cells, burnt or not. */
        int standingOn(long came) {
            int those = 0;
            for (int farm = 0; farm < number; farm++) {
                if ((came >> cells[farm] & 1) == 1) {
                    those |= 1 << farm;
                }
            }
            return those;
        }
    }

    /** The mountain's state, how it goes on, its signs, and the diary of them. */
    private static final class Mountain {
        /** Four tenths for each state, one state behind another. */
        final int[] chances = new int[STATES * STATES];
        final int[] shows = new int[STATES * SIGNS];
        final int[] diary = new int[MOST_SEEN];
        int seen = 0;
        int state = 0;
        int z = 1;

        Mountain() {
            for (int from = 0; from < STATES; from++) {
                chances[STATES * from + from] = 7;
                chances[STATES * from + (from + 1) % STATES] = 3;
                for (int sign = 0; sign < SIGNS; sign++) {
                    shows[SIGNS * from + sign] = sign == from ? 7 : 1;
                }
            }
        }

        void become(Mountain other) {
            System.arraycopy(other.chances, 0, chances, 0, STATES * STATES);
            System.arraycopy(other.shows, 0, shows, 0, STATES * SIGNS);
            System.arraycopy(other.diary, 0, diary, 0, MOST_SEEN);
            seen = other.seen;
            state = other.state;
            z = other.z;
        }

        /** A tenth of the chances (what 0) or of the signs (1); both rows have as many places. */
        int tenthAt(int what, int of, int i) {
            int[] row = what == 0 ? chances : shows;
            int place = STATES * of + i;
            return isWithin(place, 0, row.length - 1) ? row[place] : 0;
        }

        void putTenth(int what, int of, int i, int v) {
            int[] row = what == 0 ? chances : shows;
            int place = STATES * of + i;
            if (isWithin(place, 0, row.length - 1)) {
                row[place] = v;
            }
        }

        boolean isDiaryFull() {
            return seen >= MOST_SEEN;
        }

        void addSign(int sign) {
            if (!isDiaryFull()) {
                diary[seen] = sign;
                seen++;
            }
        }

        /** Goes on for a month: whether it came out. */
        boolean goOn() {
            z = z * 1103515245 + 12345;
            int draw = (z >>> 8) % TENTHS;
            int was = state;
            int below = 0;
            for (int to = 0; to < STATES; to++) {
                below += tenthAt(0, was, to);
                if (draw < below) {
                    state = to;
                    break;
                }
            }
            return state == ERUPTING && was != ERUPTING;
        }
    }

    /** What the diary says of the mountain's state, in whole parts. */
    private static final class Parts {
        final long[] rows = new long[STATES];
        private final long[] next = new long[STATES];

        void weigh(Mountain mountain) {
            rows[0] = 10;
            for (int state = 1; state < STATES; state++) {
                rows[state] = 0;
            }
            for (int i = 0; i < mountain.seen; i++) {
                see(mountain, mountain.diary[i]);
            }
        }

        void see(Mountain mountain, int sign) {
            for (int to = 0; to < STATES; to++) {
                next[to] = 0;
                for (int from = 0; from < STATES; from++) {
                    next[to] += rows[from] * mountain.tenthAt(0, from, to);
                }
            }
            for (int state = 0; state < STATES; state++) {
                rows[state] = next[state] * mountain.tenthAt(1, state, sign);
            }
        }

        long all() {
            long sum = 0;
            for (long part : rows) {
                sum += part;
            }
            return sum;
        }
    }

    /** All that the document's first section tells, but for the tape. */
    private static final class Slope {
        final Ground ground = new Ground();
        final Farms farms = new Farms();
        final Mountain mountain = new Mountain();
        int month = 0;
        int volume = 12;
        int outs = 0;
        int fed = 0;
        int fedOuts = 0;
        boolean arePigsTold = false;

        void become(Slope other) {
            ground.become(other.ground);
            farms.become(other.farms);
            mountain.become(other.mountain);
            month = other.month;
            volume = other.volume;
            outs = other.outs;
            fed = other.fed;
            fedOuts = other.fedOuts;
            arePigsTold = other.arePigsTold;
        }

        /** How often it came out in n months. */
        int goMonths(int n) {
            int came = 0;
            for (int i = 0; i < n; i++) {
                if (goMonth()) {
                    came++;
                }
            }
            return came;
        }

        /** Whether it came out. */
        boolean goMonth() {
            boolean cameOut = mountain.goOn();
            if (cameOut) {
                eruptNow();
            }
            if ((month + 1) % 12 == 0) {
                farms.earnOn(ground);
                ground.growOlder();
            }
            if (arePigsTold) {
                fed++;
                fedOuts += cameOut ? 1 : 0;
            }
            month++;
            arePigsTold = false;
            return cameOut;
        }

        private void eruptNow() {
            long came = ground.lavaFrom(ground.vent, volume);
            ground.coolDown(came);
            farms.burnt |= farms.standingOn(came);
            outs++;
        }
    }

    /** A row of numbers with a sign; one of 0 bits is missing. */
    private static final class Sheet {
        final long[] numbers = new long[SHEET_NUMBERS];
        int bits = 0;
        int size = 0;

        void lay(int newBits, int newSize) {
            bits = newBits;
            size = newBits == 0 ? 0 : newSize;
            for (int i = 0; i < SHEET_NUMBERS; i++) {
                numbers[i] = 0;
            }
        }

        boolean isMissing() {
            return bits == 0;
        }

        boolean hasRun(int from, int n) {
            // Taken from the size, not added up: a sum of two could go round.
            return from >= 0 && n >= 0 && n <= size - from;
        }

        void put(int i, long v) {
            if (!isWithin(i, 0, size - 1)) {
                return;
            }
            switch (bits) {
                case 8: numbers[i] = (byte) v; break;
                case 16: numbers[i] = (short) v; break;
                default: numbers[i] = v; break;
            }
        }
    }

    /** The bytes that were fed, and the token of them at which a reader is. */
    private static final class Tape {
        private static final int END = 0;
        private static final int WORD = 1;
        private static final int NUMBER = 2;
        private static final int SEMICOLON = 3;
        private static final int UNKNOWN = 4;
        /** No number of a text may be this great, so that greater ones need not be told apart. */
        private static final int TOO_GREAT = 1000;

        private final int[] bytes = new int[TAPE_BYTES];
        int size = 0;
        int start = 0;
        private int end = 0;
        private int sort = END;
        private int value = 0;

        void append(int b) {
            if (size < TAPE_BYTES) {
                bytes[size] = b;
                size++;
            }
        }

        void goToFirst() {
            end = 0;
            goToNext();
        }

        void goToNext() {
            start = end;
            while (start < size && bytes[start] == ' ') {
                start++;
            }
            end = start;
            if (start >= size) {
                sort = END;
            } else if (isLetter(bytes[start])) {
                endWord();
            } else if (isDigit(bytes[start])) {
                endNumber();
            } else {
                sort = bytes[start] == ';' ? SEMICOLON : UNKNOWN;
                end++;
            }
        }

        boolean isAtEnd() {
            return sort == END;
        }

        boolean isAtSemicolon() {
            return sort == SEMICOLON;
        }

        boolean isAtNumber() {
            return sort == NUMBER;
        }

        /** The number here, if it is one up to the most that may be; else -1. */
        int numberUpTo(int most) {
            return sort == NUMBER && value <= most ? value : -1;
        }

        boolean isAt(String word) {
            if (sort != WORD || end - start != word.length()) {
                return false;
            }
            for (int i = 0; i < word.length() && start + i < size; i++) {
                if (bytes[start + i] != word.charAt(i)) {
                    return false;
                }
            }
            return true;
        }

        private void endWord() {
            sort = WORD;
            while (end < size && isLetter(bytes[end])) {
                end++;
            }
        }

        private void endNumber() {
            sort = NUMBER;
            value = 0;
            while (end < size && isDigit(bytes[end])) {
                value = Math.min(TOO_GREAT, 10 * value + bytes[end] - '0');
                end++;
            }
        }

        private static boolean isLetter(int b) {
            return b >= 'a' && b <= 'z';
        }

        private static boolean isDigit(int b) {
            return b >= '0' && b <= '9';
        }
    }

    /**
     * Reads the tape's text on to a slope. Each reader stops at the token that can't stand there and answers
     * false: the tape's start is then the place of the fault.
     */
    private static final class SlopeText {
        final Tape tape = new Tape();

        /** How many items there are; -1 less the place of a fault, and then the slope is left half told. */
        int readAll(Slope slope) {
            tape.goToFirst();
            for (int items = 1; items <= TAPE_BYTES; items++) {
                if (!readItem(slope)) {
                    break;
                }
                if (tape.isAtEnd()) {
                    return items;
                }
                if (!tape.isAtSemicolon()) {
                    break;
                }
                tape.goToNext();
            }
            return -1 - tape.start;
        }

        private boolean readItem(Slope slope) {
            int kind = kindHere();
            if (kind >= 0) {
                return readFarm(kind, slope.farms);
            }
            if (tape.isAt("wall")) {
                return readWall(slope.ground);
            }
            if (tape.isAt("height")) {
                return readLevel(slope.ground.heights);
            }
            if (tape.isAt("age")) {
                return readLevel(slope.ground.ages);
            }
            if (tape.isAt("vent")) {
                return readVent(slope.ground);
            }
            if (tape.isAt("chance")) {
                return readTenths(0, slope.mountain);
            }
            if (tape.isAt("sign")) {
                return readTenths(1, slope.mountain);
            }
            if (tape.isAt("sees")) {
                return readDiary(slope.mountain);
            }
            return false;
        }

        private int kindHere() {
            for (int kind = 0; kind < KINDS; kind++) {
                if (tape.isAt(nameOf(kind))) {
                    return kind;
                }
            }
            return -1;
        }

        private static String nameOf(int kind) {
            switch (kind) {
                case 0: return "farm";
                case 1: return "wheat";
                case 2: return "vines";
                case 3: return "rye";
                case 4: return "goats";
                default: return "oldvines";
            }
        }

        private boolean readFarm(int kind, Farms farms) {
            if (farms.isFull()) {
                return false;
            }
            tape.goToNext();
            if (!tape.isAt("at")) {
                return false;
            }
            tape.goToNext();
            int cell = tape.numberUpTo(CELLS - 1);
            if (cell < 0 || farms.farmOn(cell) >= 0) {
                return false;
            }
            tape.goToNext();
            int owner = 0;
            if (tape.isAt("owner")) {
                tape.goToNext();
                owner = tape.numberUpTo(OWNERS - 1);
                if (owner < 0) {
                    return false;
                }
                tape.goToNext();
            }
            farms.add(kind, cell, owner);
            return true;
        }

        private boolean readWall(Ground ground) {
            tape.goToNext();
            int one = tape.numberUpTo(CELLS - 1);
            if (one < 0) {
                return false;
            }
            tape.goToNext();
            int way = wayTo(one, tape.numberUpTo(CELLS - 1));
            if (way < 0) {
                return false;
            }
            tape.goToNext();
            ground.putWall(one, way, true);
            return true;
        }

        private boolean readLevel(int[] row) {
            tape.goToNext();
            int cell = tape.numberUpTo(CELLS - 1);
            if (!isWithin(cell, 0, row.length - 1)) {
                return false;
            }
            tape.goToNext();
            int level = tape.numberUpTo(MOST);
            if (level < 0) {
                return false;
            }
            tape.goToNext();
            row[cell] = level;
            return true;
        }

        private boolean readVent(Ground ground) {
            tape.goToNext();
            int cell = tape.numberUpTo(CELLS - 1);
            if (cell < 0) {
                return false;
            }
            tape.goToNext();
            ground.vent = cell;
            return true;
        }

        private boolean readTenths(int what, Mountain mountain) {
            tape.goToNext();
            int state = tape.numberUpTo(STATES - 1);
            if (state < 0) {
                return false;
            }
            tape.goToNext();
            int left = TENTHS;
            for (int i = 0; i < STATES; i++) {
                int tenth = tape.numberUpTo(left);
                if (tenth < 0 || i == STATES - 1 && tenth != left) {
                    return false;
                }
                tape.goToNext();
                mountain.putTenth(what, state, i, tenth);
                left -= tenth;
            }
            return true;
        }

        private boolean readDiary(Mountain mountain) {
            tape.goToNext();
            if (!tape.isAtNumber()) {
                return false;
            }
            mountain.seen = 0;
            for (int i = 0; i < MOST_SEEN && tape.isAtNumber(); i++) {
                int sign = tape.numberUpTo(SIGNS - 1);
                if (sign < 0) {
                    return false;
                }
                mountain.addSign(sign);
                tape.goToNext();
            }
            return !tape.isAtNumber();
        }
    }
}
