import java.math.BigInteger;

/**
 * The boundary cases that the document's section 'Terms' names, in its order: each sentence has a function of its own,
 * with the sentence above it. The text's are in EdgesOfTextTest, refused calls in RefusedTest.
 */
public final class EdgesOfTermsTest {
    private static final Due due = new Due("EdgesOfTermsTest");

    public static void main(String[] args) {
        lastCallOfAll();
        findings();
        quotients();
        sets();
        beside();
        heights();
        ages();
        ventIsMoved();
        walls();
        twelveFarms();
        oneOnACell();
        owners();
        coinsAtFirst();
        bearingOfEachKind();
        ashEnds();
        burntOnes();
        chancesTogether();
        diary();
        lavaOfVolumes();
        lavaOfSeveral();
        lavaWithNoneLess();
        lavaIsOnlyAskedFor();
        lastMonth();
        drawGoesRound();
        drawsBelowTenths();
        onlyWhenItWasAnother();
        volumes();
        whatComesOut();
        yearIsOver();
        ninetyNineAtMost();
        pigs();
        parts();
        onNoMonths();
        hit();
        sheets();
        due.end();
    }

    /** A seed from which z becomes a number in the next month. */
    private static int seedFor(int next) {
        BigInteger round = BigInteger.ONE.shiftLeft(32);
        BigInteger back = BigInteger.valueOf(1103515245).modInverse(round);
        return BigInteger.valueOf(next).subtract(BigInteger.valueOf(12345)).multiply(back).mod(round).intValue();
    }

    /** "An object is used for at most 512 calls": the last of them is answered, too. */
    private static void lastCallOfAll() {
        MountainFarms x = new MountainFarms();
        for (int i = 0; i < 511; i++) {
            x.vent(-1);
        }
        due.is("512th call: findings", x.status(-1), 511);
        x = new MountainFarms();
        for (int i = 0; i < 511; i++) {
            x.months(19);
        }
        due.is("512th call: month", x.now(0), 511 * 19);
        x = new MountainFarms();
        for (int i = 0; i < 511; i++) {
            x.set(35, 0, i % 100);
        }
        due.is("512th call: set", x.set(35, 0, 99), 10);
    }

    /** "FINDINGS are answers below -1000000000: -1000000001 BEYOND, .. (in longs, too)." */
    private static void findings() {
        MountainFarms x = new MountainFarms();
        due.is("BEYOND", x.vent(36), -1000000001);
        for (int i = 0; i < 12; i++) {
            x.farm(4, i, 0);
        }
        due.is("FULL", x.farm(4, 12, 0), -1000000002);
        due.is("KIND", x.as(0, 1), -1000000003);
        due.is("NONE", x.undo(), -1000000004);
        due.is("STATE", x.build(0), -1000000005);
        due.is("MISSING", x.lays(0), -1000000006);
        due.is("SIZE", x.sheet(0, 8, -1), -1000000007);
        due.is("BEYOND, a long", x.weight(4), -1000000001L);
        due.is("BEYOND, a long", x.flow(36, 1), -1000000001L);
        due.is("BEYOND, a long", x.write(4, 0, 0), -1000000001L);
        due.is("MISSING, a long", x.write(0, 0, 0), -1000000006L);
        due.is("all", x.status(-1), 11);
    }

    /** "Quotients are cut." */
    private static void quotients() {
        MountainFarms x = new MountainFarms();
        x.farm(2, 0, 0);
        int[][] dues = {{0, 0}, {1, 0}, {2, 1}, {3, 1}, {21, 20}, {49, 34}};
        for (int[] d : dues) {
            x.set(0, 1, d[0]);
            due.is("cut: half of age " + d[0], x.of(0, 5), d[1]);
        }
        // By thousandths: sign 0 1350000 / 1267300, 1 540000 / 760810, 2 540000 / 292090 (1.8), 3 270000 / 257800.
        x.tenths(1, 3, 5, 2, 2);
        x.sees(0);
        x.sees(0);
        due.is("cut: thousandths", x.dread(), 0);
    }

    /** "Sets are told by bits." */
    private static void sets() {
        MountainFarms x = new MountainFarms();
        for (int farm = 0; farm < 12; farm++) {
            x.farm(4, farm == 11 ? 35 : farm, 0);
        }
        x.vent(35);
        due.is("sets: cell 35", x.flow(35, 1), 1L << 35);
        due.is("sets: cell 0", x.flow(0, 1), 1);
        due.is("sets: farm 11", x.hit(1), 2048);
        x.vent(0);
        due.is("sets: farm 0", x.hit(1), 1);
        x.wall(14, 8, true);
        x.wall(14, 13, true);
        due.is("sets: ways 0 and 3", x.cellOf(14, 3), 9);
        x.vent(35);
        Due.makeItComeOut(x);
        x.volume(1);
        due.is("sets: farm 11 is burnt", x.on(1, 0), 2048);
    }

    /** "CELLS in a WAY from one another are BESIDE": no way leads over the ends of rows and columns. */
    private static void beside() {
        for (int one = 0; one < 36; one++) {
            MountainFarms x = new MountainFarms();
            int walls = 0;
            for (int other = -1; other < 37; other++) {
                boolean is = other >= 0 && other < 36
                    && Math.abs(one / 6 - other / 6) + Math.abs(one % 6 - other % 6) == 1;
                due.is("beside: " + one + " and " + other, x.wall(one, other, true), is ? 1 : Due.BEYOND);
                due.is("beside: " + other + " and " + one, x.wall(other, one, true), is ? 0 : Due.BEYOND);
                walls += is ? 1 : 0;
            }
            int ways = (one / 6 > 0 ? 1 : 0) + (one % 6 < 5 ? 2 : 0) + (one / 6 < 5 ? 4 : 0) + (one % 6 > 0 ? 8 : 0);
            due.is("beside: ways of " + one, x.cellOf(one, 3), ways);
            due.is("beside: walls at " + one, x.count(2), walls);
        }
    }

    /** "HEIGHT of a CELL: 0 to 99 (at first 50 less 5 times ..)". The least at first is 20: it needs no 0 at least. */
    private static void heights() {
        MountainFarms x = new MountainFarms();
        due.is("height: at the vent", x.cellOf(14, 0), 50);
        due.is("height: farthest", x.cellOf(35, 0), 20);
        due.is("height: of the other corners", x.cellOf(0, 0), 30);
        due.is("height: of the other corners", x.cellOf(5, 0), 25);
        due.is("height: of the other corners", x.cellOf(30, 0), 25);
        due.is("height: 0", x.set(1, 0, 0), 35);
        due.is("height: 99", x.set(1, 0, 99), 0);
        due.is("height: -1", x.set(1, 0, -1), Due.BEYOND);
        due.is("height: 100", x.set(1, 0, 100), Due.BEYOND);
        due.is("height: stays", x.cellOf(1, 0), 99);
    }

    /** "AGE: years since lava was there (0 to 99; 20 at first)." */
    private static void ages() {
        MountainFarms x = new MountainFarms();
        due.is("age: 0", x.set(0, 1, 0), 20);
        due.is("age: 99", x.set(0, 1, 99), 0);
        due.is("age: -1", x.set(0, 1, -1), Due.BEYOND);
        due.is("age: 100", x.set(0, 1, 100), Due.BEYOND);
        due.is("age: stays", x.cellOf(0, 1), 99);
        due.is("age: 20 at first", x.cellOf(35, 1), 20);
    }

    /** "VENT: a CELL (14 at first; when it is moved HEIGHTS stay)." */
    private static void ventIsMoved() {
        MountainFarms x = new MountainFarms();
        due.is("vent: 14 at first", x.vent(0), 14);
        due.is("vent: height of the old one", x.cellOf(14, 0), 50);
        due.is("vent: height of the new one", x.cellOf(0, 0), 30);
        due.is("vent: to where it is", x.vent(0), 0);
        due.is("vent: the last cell", x.vent(35), 0);
        due.is("vent: is", x.now(2), 35);
    }

    /** "Between two that are BESIDE there is a WALL, or not (at first)." */
    private static void walls() {
        MountainFarms x = new MountainFarms();
        due.is("walls: none at first", x.count(2), 0);
        due.is("walls: the slope's end is none", x.cellOf(0, 3), 0);
        due.is("walls: the slope's end is none", x.cellOf(35, 3), 0);
        due.is("walls: not there", x.wall(0, 1, false), 0);
        x.wall(0, 1, true);
        due.is("walls: one for both cells", x.count(2), 1);
        due.is("walls: there", x.wall(1, 0, false), 1);
        due.is("walls: none", x.cellOf(0, 3) + x.cellOf(1, 3), 0);
    }

    /** "FARMS 0, 1, .. (at most 12)". */
    private static void twelveFarms() {
        MountainFarms x = new MountainFarms();
        due.is("farms: none is there", x.of(0, 0), Due.BEYOND);
        for (int i = 0; i < 12; i++) {
            due.is("farms: the next number", x.farm(i % 6, 35 - i, i % 6), i);
        }
        due.is("farms: the 13th", x.farm(0, 0, 0), Due.FULL);
        due.is("farms: twelve", x.count(0), 12);
        due.is("farms: none came to the cell", x.cellOf(0, 2), -1);
        due.is("farms: the last one", x.cellOf(24, 2), 11);
    }

    /** "each on a CELL (no two on one)": a burnt one is still there. */
    private static void oneOnACell() {
        MountainFarms x = new MountainFarms();
        x.farm(0, 14, 0);
        due.is("one on a cell", x.farm(4, 14, 1), Due.STATE);
        Due.makeItComeOut(x);
        x.months(1);
        due.is("one on a cell: burnt", x.of(0, 4), 1);
        due.is("one on a cell: a burnt one is there", x.farm(4, 14, 1), Due.STATE);
        due.is("one on a cell: seen from it", x.cellOf(14, 2), 0);
        due.is("one on a cell: in a text, too", Due.slope(x, "rye at 14"), -8);
    }

    /** "of an OWNER (0 to 5)". */
    private static void owners() {
        MountainFarms x = new MountainFarms();
        due.is("owner 0", x.farm(0, 0, 0), 0);
        due.is("owner 5", x.farm(0, 1, 5), 1);
        due.is("owner -1", x.farm(0, 2, -1), Due.BEYOND);
        due.is("owner 6", x.farm(0, 2, 6), Due.BEYOND);
        due.is("owner of the first", x.of(0, 2), 0);
        due.is("owner of the last", x.of(1, 2), 5);
    }

    /** "with COINS (0 at first), and BURNT or not": also where another one earned and burnt ahead of an undo. */
    private static void coinsAtFirst() {
        MountainFarms x = new MountainFarms();
        x.farm(0, 35, 0);
        x.image();
        x.farm(4, 34, 1);
        Due.makeItRest(x);
        x.months(240);
        x.farm(0, 33, 2);
        due.is("coins: 0 for one that came later", x.of(2, 3), 0);
        due.is("coins: of the one that earned", x.of(1, 3), 120);
        x.undo();
        x.farm(4, 34, 1);
        due.is("coins: 0 at first", x.of(1, 3), 0);
        due.is("burnt: not at first", x.of(1, 4), 0);
    }

    /** "BEARS of a FARM in a year": at and about each bound of AGE (no ash). */
    private static void bearingOfEachKind() {
        MountainFarms x = new MountainFarms();
        x.farm(0, 20, 0);
        // AGE, then what each kind bears.
        int[][] dues = {{0, 0, 0, 0, 3, 6, 0}, {4, 0, 0, 2, 3, 6, 2}, {5, 10, 10, 12, 13, 6, 12},
            {6, 10, 10, 13, 13, 6, 13}, {48, 10, 10, 34, 13, 6, 34}, {49, 10, 10, 34, 13, 6, 34},
            {50, 10, 10, 35, 13, 6, 45}, {51, 10, 10, 35, 13, 6, 45}, {53, 10, 10, 35, 13, 6, 45},
            {98, 10, 10, 35, 13, 6, 45}, {99, 10, 10, 35, 13, 6, 45}};
        for (int[] d : dues) {
            x.set(20, 1, d[0]);
            for (int kind = 0; kind < 6; kind++) {
                x.sow(0, kind);
                due.is("bears: kind " + kind + " at age " + d[0], x.of(0, 5), d[1 + kind]);
            }
        }
    }

    /** "WHEAT: as FARM, and twice (10 less ASH), if ASH is below 10"; "ASH (.. 0 to 99; 99 at first)". */
    private static void ashEnds() {
        MountainFarms x = new MountainFarms();
        x.farm(1, 0, 0);
        x.farm(3, 1, 0);
        x.set(0, 1, 0);
        due.is("ash: 99 at first", x.now(3), 99);
        due.is("ash: none on wheat", x.of(0, 5), 0);
        due.is("ash: none on rye", x.of(1, 5), 13);
        Due.makeItComeOut(x);
        x.volume(1);
        x.months(1);
        due.is("ash: new on wheat on new ground", x.of(0, 5), 20);
        due.is("ash: new on rye", x.of(1, 5), 33);
        x.months(107);
        x.set(0, 1, 0);
        due.is("ash: 9", x.now(3), 9);
        due.is("ash: 9 on wheat on new ground", x.of(0, 5), 2);
        due.is("ash: 9 on rye", x.of(1, 5), 15);
        x.months(12);
        x.set(0, 1, 0);
        due.is("ash: 10", x.now(3), 10);
        due.is("ash: 10 on wheat on new ground", x.of(0, 5), 0);
        due.is("ash: 10 on rye", x.of(1, 5), 13);
        for (int kind : new int[] {0, 2, 4, 5}) {
            due.is("ash: nothing to kind " + kind, x.harvest(kind, 35, 1), kind == 4 ? 6 : kind == 0 ? 10 : 25);
        }
    }

    /** "BURNT ones bear nothing." */
    private static void burntOnes() {
        MountainFarms x = new MountainFarms();
        x.farm(0, 14, 0);
        Due.makeItComeOut(x);
        x.months(1);
        x.set(14, 1, 99);
        for (int kind = 0; kind < 6; kind++) {
            x.sow(0, kind);
            due.is("burnt: kind " + kind, x.of(0, 5), 0);
        }
        x.months(11);
        due.is("burnt: no coins in a year", x.of(0, 3), 0);
        due.is("burnt: built anew it bears", x.build(0) + x.of(0, 5), -20 + 45);
    }

    /** "4 tenths, together 10; at first 7 for the same one and 3 for the next, 0 behind 3"; "(together 10; ..)". */
    private static void chancesTogether() {
        MountainFarms x = new MountainFarms();
        for (int state = 0; state < 4; state++) {
            for (int to = 0; to < 4; to++) {
                int chance = to == state ? 7 : to == (state == 3 ? 0 : state + 1) ? 3 : 0;
                due.is("chance from " + state + " to " + to, x.tenth(0, state, to), chance);
                due.is("sign " + to + " in " + state, x.tenth(1, state, to), to == state ? 7 : 1);
            }
        }
        due.is("chances: together 10", x.tenths(0, 3, 3, 3, 4), 3);
        due.is("chances: nothing is left", x.tenth(0, 3, 3), 0);
        due.is("chances: together 11", x.tenths(0, 3, 3, 4, 4), Due.BEYOND);
        due.is("chances: none told", x.tenths(0, 3, 0, 0, 0), 3);
        due.is("chances: all are left", x.tenth(0, 3, 3), 10);
    }

    /** "DIARY: up to 6 SIGNS of the months so far (empty at first)." */
    private static void diary() {
        MountainFarms x = new MountainFarms();
        due.is("diary: empty at first", x.count(4), 0);
        for (int i = 1; i <= 6; i++) {
            due.is("diary: one more", x.sees(3), i);
        }
        due.is("diary: the 7th", x.sees(3), Due.FULL);
        due.is("diary: six", x.count(4), 6);
        x.months(1);
        due.is("diary: months put nothing into it", x.count(4), 6);
        due.is("diary: six to burn", x.burn(), 6);
        due.is("diary: empty", x.count(4), 0);
    }

    /** "LAVA of a volume (1 to 99) from a CELL: it comes to that CELL; then, volume less 1 times: .." */
    private static void lavaOfVolumes() {
        MountainFarms x = new MountainFarms();
        due.is("lava: 1 stays where it comes out", x.flow(14, 1), Due.setOf(14));
        due.is("lava: 2", x.flow(14, 2), Due.setOf(14, 8));
        due.is("lava: 0", x.flow(14, 0), Due.BEYOND);
        due.is("lava: 100", x.flow(14, 100), Due.BEYOND);
        // In a pit of 0 within walls of 99, 33 steps fill it: step 34 stays as well, 99 being no less than 99.
        for (int cell : new int[] {8, 13, 15, 20}) {
            x.set(cell, 0, 98);
        }
        x.set(14, 0, 0);
        due.is("lava: 34 fills a pit", x.flow(14, 34), Due.setOf(14));
        due.is("lava: 35 comes out of it", x.flow(14, 35), Due.setOf(14, 8));
        x.set(14, 0, 2);
        // 2, 5, .. 98 after 32 steps, then 99 (not 101).
        due.is("lava: 34 fills a pit that doesn't fit", x.flow(14, 34), Due.setOf(14));
        due.is("lava: 35 comes out of it", x.flow(14, 35), Due.setOf(14, 8));
        for (int cell : new int[] {8, 13, 15, 20}) {
            x.set(cell, 0, 99);
        }
        due.is("lava: 99 doesn't come over 99", x.flow(14, 99), Due.setOf(14));
    }

    /** "whose HEIGHT is less .., with the least HEIGHT (of several the least WAY)"; "no WALL between". */
    private static void lavaOfSeveral() {
        int[] next = {8, 15, 20, 13};
        for (int first = 0; first < 4; first++) {
            for (int second = first + 1; second < 4; second++) {
                MountainFarms x = new MountainFarms();
                x.set(next[first], 0, 9);
                x.set(next[second], 0, 9);
                due.is("lava: of several the least way", x.flow(14, 2), Due.setOf(14, next[first]));
                x.set(next[second], 0, 8);
                due.is("lava: the least height", x.flow(14, 2), Due.setOf(14, next[second]));
                x.wall(next[second], 14, true);
                due.is("lava: not where a wall is", x.flow(14, 2), Due.setOf(14, next[first]));
            }
        }
    }

    /** "if there is none, HEIGHT there becomes 3 more (99 at most), and it stays there." */
    private static void lavaWithNoneLess() {
        MountainFarms x = new MountainFarms();
        Due.makeItPulse(x);
        for (int cell : new int[] {8, 13, 15, 20}) {
            x.wall(14, cell, true);
        }
        x.volume(1);
        x.months(1);
        due.is("lava: 1 makes nothing higher", x.cellOf(14, 0), 50);
        x.volume(2);
        x.months(2);
        due.is("lava: 3 more", x.cellOf(14, 0), 53);
        x.set(14, 0, 95);
        x.months(2);
        due.is("lava: 98", x.cellOf(14, 0), 98);
        x.months(2);
        due.is("lava: 99 at most", x.cellOf(14, 0), 99);
        x.volume(99);
        x.months(2);
        due.is("lava: 99 at most", x.cellOf(14, 0), 99);
        x.wall(14, 13, false);
        x.set(13, 0, 99);
        due.is("lava: the same height isn't less", x.flow(14, 99), Due.setOf(14));
        x.set(13, 0, 98);
        due.is("lava: one less is", x.flow(14, 2), Due.setOf(13, 14));
    }

    /** "(Where LAVA is only asked for, HEIGHTS are as they were behind it.)" */
    private static void lavaIsOnlyAskedFor() {
        MountainFarms x = new MountainFarms();
        x.farm(0, 35, 0);
        x.farm(0, 14, 0);
        x.sheet(0, 8, 40);
        x.write(0, 10, 3);
        x.flow(14, 99);
        x.hit(99);
        x.least(0);
        x.turnsOn(14, 8, 99);
        x.save(99);
        x.out();
        x.on(240, 0);
        x.crop(240);
        x.read(0);
        for (int cell = 0; cell < 36; cell++) {
            int far = Math.abs(cell / 6 - 2) + Math.abs(cell % 6 - 2);
            due.is("asked for: height of " + cell, x.cellOf(cell, 0), 50 - 5 * far);
            due.is("asked for: age of " + cell, x.cellOf(cell, 1), 20);
            due.is("asked for: walls of " + cell, x.cellOf(cell, 3), 0);
        }
        due.is("asked for: none is burnt", x.count(1), 0);
        due.is("asked for: it is no out", x.now(5), 0);
        due.is("asked for: no ash", x.now(3), 99);
        due.is("asked for: z", x.count(5), 1);
        due.is("asked for: month", x.now(0), 0);
    }

    /** "(MONTH is 0 at first; 9999 at most)". */
    private static void lastMonth() {
        MountainFarms x = new MountainFarms();
        due.is("month: 0 at first", x.now(0), 0);
        for (int i = 0; i < 41; i++) {
            x.months(240);
        }
        due.is("month: 9840", x.now(0), 9840);
        due.is("month: would be 10000", x.months(160), Due.STATE);
        due.is("month: still 9840", x.now(0), 9840);
        x.months(158);
        due.is("month: would be 10000", x.months(2), Due.STATE);
        due.that("month: becomes 9999", x.months(1) >= 0);
        due.is("month: 9999", x.now(0), 9999);
        int z = x.count(5);
        due.is("month: none more", x.months(1), Due.STATE);
        due.is("month: z stays", x.count(5), z);
    }

    /** "it becomes z times 1103515245 and 12345 more, an int that goes round; the draw is the rest of z >>> 8 by 10". */
    private static void drawGoesRound() {
        int[][] dues = {{1, 1103527590}, {0, 12345}, {-1, -1103502900}, {Integer.MIN_VALUE, -2147471303},
            {Integer.MAX_VALUE, 1043980748}, {2, -2087924461}, {-2, 2087949151}};
        for (int[] d : dues) {
            MountainFarms x = new MountainFarms();
            x.seed(d[0]);
            x.months(1);
            due.is("draw: z behind " + d[0], x.count(5), d[1]);
        }
        // z, and the draw that it gives: also from a z below 0, as >>> has no sign.
        int[][] draws = {{0, 0}, {255, 0}, {256, 1}, {511, 1}, {2303, 8}, {2304, 9}, {2559, 9}, {2560, 0},
            {Integer.MIN_VALUE, 8}, {Integer.MAX_VALUE, 7}, {-1, 5}, {-256, 5}, {-257, 4}};
        for (int[] d : draws) {
            due.is("draw: of z " + d[0], drawOf(d[0]), d[1]);
        }
    }

    /** The draw that a z gives, found by asking for each tenth whether it is below it. */
    private static int drawOf(int z) {
        for (int tenth = 1; tenth <= 10; tenth++) {
            MountainFarms x = new MountainFarms();
            x.tenths(0, 0, 0, tenth, 10 - tenth);
            x.seed(seedFor(z));
            x.months(1);
            if (x.now(1) == 1) {
                return tenth - 1;
            }
        }
        return -1;
    }

    /** "tells THE MOUNTAIN's STATE by CHANCES of the one it was (STATE 0 for draws below its tenths, and so on)". */
    private static void drawsBelowTenths() {
        int[][] tenths = {{3, 3, 3, 1}, {0, 0, 0, 10}, {10, 0, 0, 0}, {0, 10, 0, 0}, {0, 0, 10, 0}, {1, 0, 8, 1},
            {0, 5, 0, 5}, {9, 0, 0, 1}, {0, 1, 9, 0}};
        for (int[] t : tenths) {
            for (int draw = 0; draw < 10; draw++) {
                int want = draw < t[0] ? 0 : draw < t[0] + t[1] ? 1 : draw < t[0] + t[1] + t[2] ? 2 : 3;
                for (int was = 0; was < 4; was++) {
                    MountainFarms x = inState(was);
                    x.tenths(0, was, t[0], t[1], t[2]);
                    x.seed(seedFor(256 * draw + 7));
                    due.is("draw " + draw + ": on to", x.on(1, 2), want);
                    due.is("draw " + draw + ": out", x.months(1), want == 3 && was != 3 ? 1 : 0);
                    due.is("draw " + draw + ": state", x.now(1), want);
                }
            }
        }
    }

    private static MountainFarms inState(int state) {
        MountainFarms x = new MountainFarms();
        x.tenths(0, 0, state == 0 ? 10 : 0, state == 1 ? 10 : 0, state == 2 ? 10 : 0);
        x.months(1);
        due.is("state " + state, x.now(1), state);
        return x;
    }

    /** "If it is 3 then, and was another one: ..": from each other state, not from 3 itself. */
    private static void onlyWhenItWasAnother() {
        for (int was = 0; was < 4; was++) {
            MountainFarms x = inState(was);
            int outs = x.now(5);
            x.farm(4, 14, 0);
            x.set(14, 1, 20);
            x.tenths(0, was, 0, 0, 0);
            int more = was == 3 ? 0 : 1;
            due.is("out from " + was, x.months(1), more);
            due.is("out from " + was + ": outs", x.now(5), outs + more);
            due.is("out from " + was + ": burnt", x.of(0, 4), more);
            due.is("out from " + was + ": age", x.cellOf(14, 1), more == 1 ? 0 : 20);
        }
        MountainFarms y = new MountainFarms();
        Due.makeItPulse(y);
        due.is("out again when it was asleep between", y.months(6), 3);
    }

    /** "lava of VOLUME (1 to 99; 12 at first) flows from the VENT". */
    private static void volumes() {
        MountainFarms x = new MountainFarms();
        due.is("volume: 12 at first", x.volume(1), 12);
        due.is("volume: 1", x.volume(99), 1);
        due.is("volume: 99", x.volume(100), Due.BEYOND);
        due.is("volume: 0", x.volume(0), Due.BEYOND);
        due.is("volume: stays", x.now(4), 99);
        long came = x.flow(14, 99);
        Due.makeItComeOut(x);
        x.months(1);
        for (int cell = 0; cell < 36; cell++) {
            due.is("volume: 99 came to " + cell, x.cellOf(cell, 1), (came >> cell & 1) == 1 ? 0 : 20);
        }
    }

    /** "CELLS to which it came have AGE 0, FARMS there are BURNT, ASH becomes 0, and OUTS (how often) is one more." */
    private static void whatComesOut() {
        MountainFarms x = new MountainFarms();
        x.farm(0, 14, 0);
        x.farm(0, 8, 0);
        x.farm(0, 2, 0);
        x.vent(35);
        x.set(35, 0, 99);
        x.set(34, 0, 0);
        x.volume(2);
        Due.makeItPulse(x);
        due.is("comes out: without a farm on its way", x.months(1), 1);
        due.is("comes out: none is burnt", x.count(1), 0);
        due.is("comes out: ash all the same", x.now(3), 0);
        due.is("comes out: age at the vent", x.cellOf(35, 1), 0);
        due.is("comes out: age where it flowed", x.cellOf(34, 1), 0);
        due.is("comes out: no further", x.cellOf(33, 1) + x.cellOf(29, 1) + x.cellOf(28, 1), 60);
        x.vent(14);
        due.is("comes out: the second time", x.months(2), 1);
        due.is("comes out: two are burnt", x.on(0, 0), 3);
        due.is("comes out: outs", x.now(5), 2);
        x.vent(0);
        due.is("comes out: the age of the first cell ahead", x.cellOf(0, 1), 20);
        x.months(2);
        due.is("comes out: the age of the first cell", x.cellOf(0, 1), 0);
        due.is("comes out: over burnt ones", x.count(1), 2);
        due.is("comes out: outs", x.now(5), 3);
    }

    /** "If MONTH and 1 is a multiple of 12 then: a year is over: each FARM gets what it BEARS as COINS; ..". */
    private static void yearIsOver() {
        MountainFarms x = new MountainFarms();
        Due.makeItRest(x);
        x.farm(4, 0, 0);
        x.set(0, 1, 4);
        x.farm(0, 1, 0);
        x.set(1, 1, 4);
        for (int month = 1; month <= 36; month++) {
            x.months(1);
            int years = month / 12;
            due.is("year: goats in month " + month, x.of(0, 3), 6 * years);
            // Its cell was 4 years old when the first year was over.
            due.is("year: farm in month " + month, x.of(1, 3), years > 0 ? 10 * years - 10 : 0);
            due.is("year: age in month " + month, x.cellOf(0, 1), 4 + years);
        }
        due.is("year: many in one call", x.months(240), 0);
        due.is("year: coins of 23 years", x.of(0, 3), 6 * 23);
        for (int i = 0; i < 40; i++) {
            x.months(240);
        }
        x.months(119);
        due.is("year: month 9995", x.now(0), 9995);
        int coins = x.of(0, 3);
        x.months(1);
        due.is("year: the last one", x.of(0, 3), coins + 6);
        x.months(3);
        due.is("year: none behind it", x.of(0, 3), coins + 6);
    }

    /** "then AGES of all CELLS and ASH are one more (99 at most)." */
    private static void ninetyNineAtMost() {
        MountainFarms x = new MountainFarms();
        x.set(0, 1, 98);
        x.set(35, 1, 99);
        Due.makeItRest(x);
        x.months(12);
        due.is("99: age 98", x.cellOf(0, 1), 99);
        due.is("99: age 99", x.cellOf(35, 1), 99);
        due.is("99: ash 99", x.now(3), 99);
        x.months(12);
        due.is("99: age still", x.cellOf(0, 1), 99);
        due.is("99: other ages", x.cellOf(1, 1), 22);
        Due.makeItComeOut(x);
        x.months(1);
        for (int i = 0; i < 98; i++) {
            x.months(12);
        }
        due.is("99: ash 98", x.now(3), 98);
        x.months(12);
        due.is("99: ash 99", x.now(3), 99);
        x.months(12);
        due.is("99: ash still", x.now(3), 99);
        due.is("99: age of lava", x.cellOf(14, 1), 99);
    }

    /** "PIGS: whether they were fed in this MONTH (told; not at first): ..; then .. no pigs are told." */
    private static void pigs() {
        MountainFarms x = new MountainFarms();
        due.is("pigs: not at first", x.pigs(false), 0);
        x.months(1);
        due.is("pigs: none fed", x.now(6), 0);
        x.pigs(true);
        Due.makeItPulse(x);
        x.months(240);
        due.is("pigs: only the first of many months", x.now(6), 1);
        due.is("pigs: no pigs are told", x.pigs(false), 0);
        x.pigs(true);
        x.pigs(false);
        x.months(2);
        due.is("pigs: taken back", x.now(6), 1);
        // It is asleep or out by turns: fed when it comes out, and when it doesn't.
        int outs = x.now(5);
        int fedOuts = x.now(7);
        for (int i = 0; i < 2; i++) {
            x.pigs(true);
            x.months(1);
        }
        due.is("pigs: fed in both", x.now(6), 3);
        due.is("pigs: it came out in one", x.now(5), outs + 1);
        due.is("pigs: counted once", x.now(7), fedOuts + 1);
        x.months(2);
        due.is("pigs: not without them", x.now(7), fedOuts + 1);
    }

    /** "WEIGHT ..: at first 10 parts of STATE 0 and none of others": an empty, a full and a hopeless diary. */
    private static void parts() {
        MountainFarms x = new MountainFarms();
        long[] first = {10, 0, 0, 0};
        for (int state = 0; state < 4; state++) {
            due.is("parts: empty diary, state " + state, x.weight(state), first[state]);
        }
        Due.makeItComeOut(x);
        x.tenths(1, 3, 0, 0, 0);
        for (int i = 1; i <= 6; i++) {
            x.sees(3);
        }
        due.is("parts: the greatest", x.weight(3), 10_000_000_000_000L);
        due.is("parts: of all", x.weight(-1), 10_000_000_000_000L);
        due.is("parts: of another one", x.weight(0), 0);
        x.tenths(1, 3, 10, 0, 0);
        due.is("parts: none of any", x.weight(-1), 0);
        x.burn();
        due.is("parts: as at first", x.weight(-1), 10);
        x.months(1);
        due.is("parts: not by the state that is", x.weight(0), 10);
    }

    /** "ON: n MONTHS go on with all as it is, the same draws; nothing changes." */
    private static void onNoMonths() {
        MountainFarms x = new MountainFarms();
        x.farm(4, 14, 0);
        for (int what = 0; what < 3; what++) {
            due.is("on: no months, what " + what, x.on(0, what), 0);
        }
        due.is("on: 12 months", x.on(12, 0), 1);
        due.is("on: 12 months again", x.on(12, 0), 1);
        x.months(12);
        due.is("on: the same draws", x.on(0, 0), 1);
        due.is("on: state as it is", x.on(0, 2), x.now(1));
    }

    /** "HIT by a volume: the FARMS (not BURNT) to whose CELLS LAVA of it from the VENT would come now." */
    private static void hit() {
        MountainFarms x = new MountainFarms();
        due.is("hit: no farm", x.hit(99), 0);
        x.farm(0, 8, 0);
        x.farm(0, 14, 0);
        due.is("hit: 1", x.hit(1), 2);
        due.is("hit: 2", x.hit(2), 3);
        Due.makeItComeOut(x);
        x.volume(1);
        x.months(1);
        due.is("hit: not burnt ones", x.hit(99), 1);
        x.wall(8, 14, true);
        x.vent(8);
        due.is("hit: from the vent as it is now", x.hit(1), 1);
    }

    /** "SHEETS 0 to 3 are rows of at most 40 numbers of 8, 16 or 64 bits (with a sign), or MISSING (at first)." */
    private static void sheets() {
        MountainFarms x = new MountainFarms();
        for (int s = 0; s < 4; s++) {
            due.is("sheets: missing at first", x.write(s, 0, 0), Due.MISSING);
        }
        due.is("sheets: -1", x.sheet(-1, 8, 1), Due.BEYOND);
        due.is("sheets: 4", x.sheet(4, 8, 1), Due.BEYOND);
        due.is("sheets: 40", x.sheet(0, 8, 40), 40);
        due.is("sheets: 41", x.sheet(0, 8, 41), Due.BEYOND);
        due.is("sheets: the last number", x.write(0, 39, -128), 0);
        due.is("sheets: with a sign", x.write(0, 39, 128), -128);
        due.is("sheets: goes round", x.write(0, 39, 0), -128);
        due.is("sheets: the 41st number", x.write(0, 40, 0), Due.BEYOND);
    }
}
