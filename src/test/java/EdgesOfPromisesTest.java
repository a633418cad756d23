/**
 * The boundary cases that promises 1 to 35 name, one function a promise, with its words above it. Promises 36 to 38
 * are in EdgesOfTextTest, 39 to 49 in EdgesOfSheetsTest; that a refused call changes nothing is in RefusedTest.
 */
public final class EdgesOfPromisesTest {
    private static final Due due = new Due("EdgesOfPromisesTest");

    public static void main(String[] args) {
        newObject();
        set();
        cellOf();
        vent();
        wall();
        farm();
        of();
        sow();
        as();
        build();
        coins();
        best();
        harvest();
        tenths();
        tenth();
        sees();
        burn();
        weight();
        likeliest();
        flee();
        fleeExactly();
        dread();
        flow();
        hit();
        least();
        turnsOn();
        save();
        saveWithoutAWall();
        volume();
        pigs();
        months();
        seed();
        now();
        doPigs();
        out();
        on();
        crop();
        due.end();
    }

    /** An object whose mountain rests, at a late MONTH. */
    private static MountainFarms inMonth(int month) {
        MountainFarms x = new MountainFarms();
        Due.makeItRest(x);
        for (int left = month; left > 0; left -= 240) {
            x.months(Math.min(240, left));
        }
        due.is("month " + month, x.now(0), month);
        return x;
    }

    /** A farm of each kind on the first row, burnt all. */
    private static MountainFarms withBurntOnes() {
        MountainFarms x = new MountainFarms();
        for (int kind = 0; kind < 6; kind++) {
            x.farm(kind, kind, kind);
            x.set(kind, 0, 6 - kind);
            x.wall(kind, kind + 6, true);
        }
        x.vent(0);
        Due.makeItComeOut(x);
        x.months(1);
        due.is("burnt ones", x.count(1), 6);
        return x;
    }

    /** 1: "All as at first; THE TAPE is empty, no image is kept." One object has nothing of another one. */
    private static void newObject() {
        MountainFarms x = new MountainFarms();
        due.is("1: the tape", x.wipe(), 0);
        due.is("1: an empty text", x.slope(), -1);
        due.is("1: no image", x.tear(), 0);
        due.is("1: no image", x.undo(), Due.NONE);
        x.farm(0, 0, 0);
        x.set(0, 0, 1);
        x.wall(0, 1, true);
        x.tenths(0, 0, 1, 1, 1);
        x.tenths(1, 0, 1, 1, 1);
        x.sees(1);
        x.sheet(0, 8, 4);
        x.feed(0, 4);
        x.image();
        x.pigs(true);
        x.months(13);
        MountainFarms y = new MountainFarms();
        due.that("1: a second object", Snapshot.of(y).equals(Snapshot.of(new MountainFarms())));
        y = new MountainFarms();
        due.is("1: no finding yet", y.status(-1), 0);
        due.is("1: no farm", y.count(0), 0);
        due.is("1: height", y.cellOf(0, 0), 30);
        due.is("1: chance", y.tenth(0, 0, 0), 7);
        due.is("1: sheets are missing", y.write(0, 0, 0), Due.MISSING);
        due.is("1: no image", y.tear(), 0);
    }

    /** 2: "HEIGHT (what 0), AGE (1) of a CELL becomes v: what it was. BEYOND." */
    private static void set() {
        MountainFarms x = new MountainFarms();
        int[] first = {30, 20, 20, 20};
        for (int i = 0; i < 4; i++) {
            int cell = i % 2 * 35;
            int what = i / 2;
            due.is("2: to 0", x.set(cell, what, 0), what == 1 ? 20 : first[i]);
            due.is("2: to 99", x.set(cell, what, 99), 0);
            due.is("2: to the same", x.set(cell, what, 99), 99);
            due.is("2: to -1", x.set(cell, what, -1), Due.BEYOND);
            due.is("2: to 100", x.set(cell, what, 100), Due.BEYOND);
            due.is("2: stays", x.cellOf(cell, what), 99);
        }
        due.is("2: what 2", x.set(0, 2, 1), Due.BEYOND);
        due.is("2: what -1", x.set(0, -1, 1), Due.BEYOND);
        due.is("2: cell 36", x.set(36, 0, 1), Due.BEYOND);
        due.is("2: cell -1", x.set(-1, 1, 1), Due.BEYOND);
    }

    /** 3: "what 0 HEIGHT, 1 AGE, 2 which FARM is there (-1), 3 WAYS in which there is a WALL, as a set. BEYOND." */
    private static void cellOf() {
        MountainFarms x = new MountainFarms();
        due.is("3: no farm", x.cellOf(35, 2), -1);
        for (int i = 0; i < 12; i++) {
            x.farm(4, 35 - i, 0);
        }
        due.is("3: the first farm", x.cellOf(35, 2), 0);
        due.is("3: the last farm", x.cellOf(24, 2), 11);
        due.is("3: no farm", x.cellOf(23, 2), -1);
        int[] other = {8, 15, 20, 13};
        int ways = 0;
        for (int way = 0; way < 4; way++) {
            due.is("3: ways", x.cellOf(14, 3), ways);
            x.wall(14, other[way], true);
            ways += 1 << way;
            due.is("3: seen from the other one", x.cellOf(other[way], 3), 1 << (way + 2) % 4);
        }
        due.is("3: all ways", x.cellOf(14, 3), 15);
        for (int what : new int[] {-1, 4}) {
            due.is("3: what " + what, x.cellOf(0, what), Due.BEYOND);
        }
        for (int cell : new int[] {-1, 36}) {
            for (int what = 0; what < 4; what++) {
                due.is("3: cell " + cell, x.cellOf(cell, what), Due.BEYOND);
            }
        }
    }

    /** 4: "VENT becomes a CELL: what it was. BEYOND." */
    private static void vent() {
        MountainFarms x = new MountainFarms();
        due.is("4: the same", x.vent(14), 14);
        due.is("4: 0", x.vent(0), 14);
        due.is("4: 35", x.vent(35), 0);
        due.is("4: -1", x.vent(-1), Due.BEYOND);
        due.is("4: 36", x.vent(36), Due.BEYOND);
        due.is("4: is", x.vent(35), 35);
    }

    /** 5: "Between two CELLS there is a WALL, or not: 1 if that is new, else 0. BEYOND: they aren't BESIDE." */
    private static void wall() {
        MountainFarms x = new MountainFarms();
        due.is("5: none, not new", x.wall(34, 35, false), 0);
        due.is("5: new", x.wall(34, 35, true), 1);
        due.is("5: not new", x.wall(34, 35, true), 0);
        due.is("5: not new, the other way", x.wall(35, 34, true), 0);
        due.is("5: none, new, the other way", x.wall(35, 34, false), 1);
        due.is("5: none, not new", x.wall(34, 35, false), 0);
        due.is("5: none left", x.count(2), 0);
        int[][] others = {{5, 6}, {11, 12}, {23, 24}, {29, 30}, {0, 0}, {35, 35}, {0, 7}, {1, 6}, {0, 2}, {0, 12},
            {0, 35}, {35, 36}, {30, 36}, {0, -1}, {5, -1}, {0, -6}, {36, 37}, {-1, -2}, {-7, -1}};
        for (int[] o : others) {
            due.is("5: " + o[0] + " and " + o[1], x.wall(o[0], o[1], true), Due.BEYOND);
            due.is("5: " + o[1] + " and " + o[0], x.wall(o[1], o[0], false), Due.BEYOND);
        }
        due.is("5: none came", x.count(2), 0);
    }

    /** 6: "A new FARM: its number. BEYOND: kind, cell, owner. STATE: there is one. FULL." */
    private static void farm() {
        MountainFarms x = new MountainFarms();
        due.is("6: the least of all", x.farm(0, 0, 0), 0);
        due.is("6: the most of all", x.farm(5, 35, 5), 1);
        for (int[] f : new int[][] {{-1, 1, 1}, {6, 1, 1}, {1, -1, 1}, {1, 36, 1}, {1, 1, -1}, {1, 1, 6}}) {
            due.is("6: BEYOND", x.farm(f[0], f[1], f[2]), Due.BEYOND);
        }
        due.is("6: there is one", x.farm(1, 0, 0), Due.STATE);
        due.is("6: there is one", x.farm(1, 35, 0), Due.STATE);
        due.is("6: BEYOND first", x.farm(1, 35, 6), Due.BEYOND);
        for (int i = 2; i < 12; i++) {
            due.is("6: the next one", x.farm(4, i, 1), i);
        }
        due.is("6: STATE first", x.farm(1, 35, 0), Due.STATE);
        due.is("6: FULL", x.farm(1, 34, 0), Due.FULL);
        due.is("6: told", x.status(-1), 11);
    }

    /** 7: "what 0 KIND, 1 CELL, 2 OWNER, 3 COINS, 4 1 if BURNT, else 0, 5 what it BEARS now. BEYOND." */
    private static void of() {
        MountainFarms x = new MountainFarms();
        due.is("7: no farm", x.of(0, 0), Due.BEYOND);
        x.farm(5, 35, 5);
        int[] dues = {5, 35, 5, 0, 0, 20};
        for (int what = 0; what < 6; what++) {
            due.is("7: what " + what, x.of(0, what), dues[what]);
            due.is("7: not the next one", x.of(1, what), Due.BEYOND);
            due.is("7: not -1", x.of(-1, what), Due.BEYOND);
        }
        due.is("7: what -1", x.of(0, -1), Due.BEYOND);
        due.is("7: what 6", x.of(0, 6), Due.BEYOND);
        MountainFarms y = withBurntOnes();
        for (int farm = 0; farm < 6; farm++) {
            due.is("7: burnt", y.of(farm, 4), 1);
            due.is("7: burnt, bears", y.of(farm, 5), 0);
        }
    }

    /** 8: "What is sown becomes of another KIND: what it was. BEYOND." */
    private static void sow() {
        MountainFarms x = new MountainFarms();
        due.is("8: no farm", x.sow(0, 0), Due.BEYOND);
        x.farm(0, 0, 0);
        due.is("8: the last kind", x.sow(0, 5), 0);
        due.is("8: the same kind", x.sow(0, 5), 5);
        due.is("8: the first kind", x.sow(0, 0), 5);
        due.is("8: kind -1", x.sow(0, -1), Due.BEYOND);
        due.is("8: kind 6", x.sow(0, 6), Due.BEYOND);
        due.is("8: farm -1", x.sow(-1, 0), Due.BEYOND);
        due.is("8: farm 1", x.sow(1, 0), Due.BEYOND);
        due.is("8: is", x.of(0, 0), 0);
        MountainFarms y = withBurntOnes();
        due.is("8: burnt", y.sow(5, 1), 5);
        due.is("8: burnt still", y.of(5, 4), 1);
    }

    /** 9: "A FARM as one of a kind: CELL. BEYOND: no such FARM, kind. KIND: it isn't of that kind, nor of one under it." */
    private static void as() {
        MountainFarms x = new MountainFarms();
        due.is("9: no farm", x.as(0, 0), Due.BEYOND);
        x.farm(5, 0, 0);
        x.farm(0, 35, 0);
        x.farm(3, 17, 0);
        due.is("9: of that kind", x.as(0, 5), 0);
        due.is("9: of one under it", x.as(0, 2), 0);
        due.is("9: of one under one under it", x.as(0, 0), 0);
        due.is("9: of one under one under it", x.as(2, 0), 17);
        due.is("9: of one under it", x.as(2, 1), 17);
        due.is("9: of that kind", x.as(1, 0), 35);
        for (int kind = 1; kind < 6; kind++) {
            due.is("9: that kind is under it", x.as(1, kind), Due.KIND);
        }
        due.is("9: of another branch", x.as(0, 1), Due.KIND);
        due.is("9: of another branch", x.as(2, 2), Due.KIND);
        due.is("9: kind -1", x.as(0, -1), Due.BEYOND);
        due.is("9: kind 6", x.as(0, 6), Due.BEYOND);
        due.is("9: farm -1", x.as(-1, 0), Due.BEYOND);
        due.is("9: farm 3", x.as(3, 0), Due.BEYOND);
        x.sow(0, 4);
        due.is("9: as it is sown now", x.as(0, 2), Due.KIND);
        due.is("9: burnt", withBurntOnes().as(3, 1), 3);
    }

    /** 10: "A BURNT FARM is built anew: COINS, less 20 (below 0, too). BEYOND. STATE: it isn't BURNT." */
    private static void build() {
        MountainFarms x = new MountainFarms();
        due.is("10: no farm", x.build(0), Due.BEYOND);
        x.farm(0, 14, 0);
        due.is("10: it isn't burnt", x.build(0), Due.STATE);
        Due.makeItRest(x);
        x.months(24);
        Due.makeItPulse(x);
        x.volume(1);
        x.months(1);
        due.is("10: to 0", x.build(0), 0);
        due.is("10: it isn't burnt any more", x.build(0), Due.STATE);
        due.is("10: not paid twice", x.of(0, 3), 0);
        x.months(2);
        due.is("10: below 0", x.build(0), -20);
        x.months(2);
        due.is("10: farther below 0", x.build(0), -40);
        due.is("10: farm 1", x.build(1), Due.BEYOND);
        due.is("10: farm -1", x.build(-1), Due.BEYOND);
    }

    /** 11: "COINS of an OWNER's FARMS together. BEYOND." */
    private static void coins() {
        MountainFarms x = withBurntOnes();
        for (int owner = 0; owner < 6; owner++) {
            due.is("11: none yet", x.coins(owner), 0);
        }
        x.build(0);
        x.build(5);
        x.farm(4, 14, 5);
        x.farm(4, 15, 5);
        due.is("11: below 0", x.coins(0), -20);
        x.months(11);
        due.is("11: three together", x.coins(5), -20 + 6 + 6);
        due.is("11: a burnt one", x.coins(1), 0);
        due.is("11: owner -1", x.coins(-1), Due.BEYOND);
        due.is("11: owner 6", x.coins(6), Due.BEYOND);
        due.is("11: owner without a farm", new MountainFarms().coins(0), 0);
    }

    /** 12: "The KIND that would bear most on a FARM's CELL now (BURNT or not); of several the least. BEYOND." */
    private static void best() {
        MountainFarms x = new MountainFarms();
        due.is("12: no farm", x.best(0), Due.BEYOND);
        x.farm(4, 14, 0);
        // AGE, and the best kind without ash: at 6 VINES and RYE bear 13 each, from 50 on OLD VINES alone 45.
        int[][] dues = {{0, 4}, {4, 4}, {5, 3}, {6, 2}, {7, 2}, {49, 2}, {50, 5}, {99, 5}};
        for (int[] d : dues) {
            x.set(14, 1, d[0]);
            due.is("12: at age " + d[0], x.best(0), d[1]);
        }
        due.is("12: farm -1", x.best(-1), Due.BEYOND);
        due.is("12: farm 1", x.best(1), Due.BEYOND);
        Due.makeItComeOut(x);
        x.months(1);
        due.is("12: burnt, on ash and new ground", x.best(0), 3);
        x.set(14, 1, 46);
        // 10 and 23 of VINES, 10 and 20 and 3 of RYE.
        due.is("12: burnt, of two the least", x.best(0), 2);
        x.set(14, 1, 45);
        due.is("12: burnt, the best", x.best(0), 3);
    }

    /** 13: "in n years (0 to 50) from now, all together (the years 0 to n less 1 on, AGE and ASH going on, no lava)". */
    private static void harvest() {
        MountainFarms x = new MountainFarms();
        due.is("13: no year", x.harvest(5, 35, 0), 0);
        due.is("13: this year", x.harvest(2, 0, 1), 20);
        due.is("13: 50 years of goats", x.harvest(4, 0, 50), 300);
        due.is("13: -1", x.harvest(4, 0, -1), Due.BEYOND);
        due.is("13: 51", x.harvest(4, 0, 51), Due.BEYOND);
        for (int[] h : new int[][] {{-1, 0}, {6, 0}, {0, -1}, {0, 36}}) {
            due.is("13: kind " + h[0] + ", cell " + h[1], x.harvest(h[0], h[1], 1), Due.BEYOND);
        }
        x.set(35, 1, 0);
        // Ages 0 to 4 bear nothing, 5 to 49 ten each.
        due.is("13: till it is old enough", x.harvest(0, 35, 5), 0);
        due.is("13: from then on", x.harvest(0, 35, 6), 10);
        due.is("13: 50 years", x.harvest(0, 35, 50), 450);
        x.set(35, 1, 49);
        due.is("13: old vines, 49 and 50", x.harvest(5, 35, 2), 34 + 45);
        x.set(35, 1, 98);
        due.is("13: 99 at most", x.harvest(5, 35, 50), 45 * 50);
        Due.makeItComeOut(x);
        due.is("13: no lava", x.harvest(1, 14, 50), 500);
        x.months(1);
        // ASH 0 to 9: 20, 18, .. 2 more.
        due.is("13: ash goes on", x.harvest(1, 0, 10), 100 + 110);
        due.is("13: no ash any more", x.harvest(1, 0, 11), 110 + 110);
        due.is("13: nothing changes", x.now(3), 0);
        due.is("13: nothing changes", x.cellOf(35, 1), 98);
    }

    /** 14: ".. become a, b, c and what is left of 10: the first that was. BEYOND: also, if .. together .. above 10." */
    private static void tenths() {
        MountainFarms x = new MountainFarms();
        for (int what = 0; what < 2; what++) {
            due.is("14: all told", x.tenths(what, 0, 1, 2, 7), 7);
            due.is("14: nothing left", x.tenth(what, 0, 3), 0);
            due.is("14: none told", x.tenths(what, 0, 0, 0, 0), 1);
            due.is("14: all left", x.tenth(what, 0, 3), 10);
            due.is("14: the last state", x.tenths(what, 3, 10, 0, 0), what == 0 ? 3 : 1);
            int most = Integer.MAX_VALUE;
            int[][] wrong = {{1, 2, 8}, {11, 0, 0}, {0, 11, 0}, {0, 0, 11}, {-1, 0, 0}, {0, -1, 0}, {0, 0, -1},
                {-1, 11, 0}, {12, -1, -1}, {most, most, 2}, {most, 1, 0}, {Integer.MIN_VALUE, Integer.MIN_VALUE, 10}};
            for (int[] w : wrong) {
                due.is("14: " + w[0] + " " + w[1] + " " + w[2], x.tenths(what, 3, w[0], w[1], w[2]), Due.BEYOND);
            }
            due.is("14: stays", x.tenth(what, 3, 0), 10);
            due.is("14: state -1", x.tenths(what, -1, 1, 1, 1), Due.BEYOND);
            due.is("14: state 4", x.tenths(what, 4, 1, 1, 1), Due.BEYOND);
        }
        due.is("14: what -1", x.tenths(-1, 0, 1, 1, 1), Due.BEYOND);
        due.is("14: what 2", x.tenths(2, 0, 1, 1, 1), Due.BEYOND);
    }

    /** 15: "The i-th tenths (0 to 3) of a STATE: what 0 CHANCE, 1 SIGN. BEYOND." */
    private static void tenth() {
        MountainFarms x = new MountainFarms();
        due.is("15: the first chance", x.tenth(0, 0, 0), 7);
        due.is("15: the last chance", x.tenth(0, 3, 3), 7);
        due.is("15: 0 behind 3", x.tenth(0, 3, 0), 3);
        due.is("15: the first sign", x.tenth(1, 0, 0), 7);
        due.is("15: the last sign", x.tenth(1, 3, 3), 7);
        for (int[] t : new int[][] {{-1, 0, 0}, {2, 0, 0}, {0, -1, 3}, {0, 4, 0}, {1, 0, -1}, {1, 0, 4}, {0, 1, -4}}) {
            due.is("15: " + t[0] + " " + t[1] + " " + t[2], x.tenth(t[0], t[1], t[2]), Due.BEYOND);
        }
    }

    /** 16: "A SIGN comes behind the DIARY: how many there are. BEYOND. FULL." */
    private static void sees() {
        MountainFarms x = new MountainFarms();
        due.is("16: -1", x.sees(-1), Due.BEYOND);
        due.is("16: 4", x.sees(4), Due.BEYOND);
        for (int i = 1; i <= 6; i++) {
            due.is("16: sign " + i, x.sees(i % 2 * 3), i);
        }
        due.is("16: FULL", x.sees(0), Due.FULL);
        due.is("16: BEYOND first", x.sees(4), Due.BEYOND);
        due.is("16: BEYOND first", x.sees(-1), Due.BEYOND);
        due.is("16: six", x.count(4), 6);
    }

    /** 17: "DIARY is empty: how many there were." */
    private static void burn() {
        MountainFarms x = new MountainFarms();
        due.is("17: none", x.burn(), 0);
        for (int i = 0; i < 6; i++) {
            x.sees(2);
        }
        due.is("17: full", x.burn(), 6);
        due.is("17: none", x.burn(), 0);
        due.is("17: from the first on", x.sees(0), 1);
        due.is("17: none of the old ones", x.weight(0), 490);
    }

    /** 18: "WEIGHT of a STATE; of all (state -1). BEYOND." */
    private static void weight() {
        MountainFarms x = new MountainFarms();
        long[] dues = {10, 10, 0, 0, 0};
        for (int state = -1; state < 4; state++) {
            due.is("18: state " + state, x.weight(state), dues[state + 1]);
        }
        due.is("18: -2", x.weight(-2), Due.BEYOND);
        due.is("18: 4", x.weight(4), Due.BEYOND);
        x.sees(3);
        // 70 parts asleep and 30 warm, a tenth of each by goats.
        due.is("18: one sign", x.weight(-1), 100);
    }

    /** 19: "The STATE with most WEIGHT; of several the least. NONE: all have none." */
    private static void likeliest() {
        MountainFarms x = new MountainFarms();
        due.is("19: empty diary", x.likeliest(), 0);
        x.tenths(0, 0, 0, 0, 5);
        x.tenths(1, 2, 5, 0, 0);
        x.tenths(1, 3, 5, 0, 0);
        x.sees(0);
        due.is("19: of two the least", x.likeliest(), 2);
        x.tenths(1, 3, 6, 0, 0);
        due.is("19: the last one", x.likeliest(), 3);
        x.tenths(0, 0, 1, 8, 1);
        due.is("19: the second one", x.likeliest(), 1);
        x.burn();
        x.tenths(0, 0, 3, 3, 2);
        for (int state = 0; state < 4; state++) {
            x.tenths(1, state, 1, 0, 0);
        }
        x.sees(0);
        due.is("19: of two, two less", x.likeliest(), 0);
        x.tenths(1, 0, 0, 0, 0);
        x.tenths(1, 1, 0, 0, 0);
        x.tenths(1, 2, 0, 0, 0);
        x.tenths(1, 3, 0, 0, 0);
        due.is("19: all have none", x.likeliest(), Due.NONE);
        due.is("19: all have none", x.weight(-1), 0);
    }

    /** 20: "1 if SURE of STATES 2 and 3 together is p tenths (0 to 10) or more, else 0. BEYOND. NONE: all have none." */
    private static void flee() {
        MountainFarms x = new MountainFarms();
        due.is("20: 0 tenths of nothing", x.flee(0), 1);
        due.is("20: 1 tenth of nothing", x.flee(1), 0);
        due.is("20: 10 tenths of nothing", x.flee(10), 0);
        due.is("20: -1", x.flee(-1), Due.BEYOND);
        due.is("20: 11", x.flee(11), Due.BEYOND);
        for (int state = 0; state < 4; state++) {
            x.tenths(1, state, 10, 0, 0);
        }
        x.sees(0);
        for (int sure = 0; sure <= 10; sure++) {
            x.tenths(0, 0, 10 - sure, 0, sure / 2);
            for (int p = 0; p <= 10; p++) {
                due.is("20: " + sure + " tenths, p " + p, x.flee(p), sure >= p ? 1 : 0);
            }
        }
        for (int state = 0; state < 4; state++) {
            x.tenths(1, state, 0, 10, 0);
        }
        due.is("20: all have none", x.flee(0), Due.NONE);
        due.is("20: all have none", x.flee(10), Due.NONE);
        due.is("20: BEYOND first", x.flee(11), Due.BEYOND);
    }

    /** The same with the greatest weights: a part less than p tenths is too little. */
    private static void fleeExactly() {
        MountainFarms x = new MountainFarms();
        x.tenths(0, 0, 1, 0, 0);
        x.tenths(0, 3, 0, 0, 0);
        x.tenths(1, 0, 1, 9, 0);
        x.tenths(1, 3, 10, 0, 0);
        for (int i = 0; i < 6; i++) {
            x.sees(0);
        }
        // Asleep 10 of some 10 ** 13 parts: it is nearly sure, but not all.
        due.is("20: parts asleep", x.weight(0), 10);
        due.that("20: parts out", x.weight(3) > 9_000_000_000_000L && x.weight(3) == x.weight(-1) - 10);
        due.is("20: 9 tenths", x.flee(9), 1);
        due.is("20: 10 tenths, ten parts less", x.flee(10), 0);
        x.tenths(0, 0, 0, 0, 0);
        due.is("20: 10 tenths, just that", x.flee(10), 1);
    }

    /** 21: "(cut; SIGNS with which all have none are left out); of several the least. NONE: ..". */
    private static void dread() {
        MountainFarms x = new MountainFarms();
        due.is("21: STATE 3 has none with each", x.dread(), 0);
        x.tenths(1, 0, 0, 5, 0);
        x.tenths(1, 1, 0, 5, 0);
        due.is("21: the first one is left out", x.dread(), 1);
        x.tenths(0, 0, 5, 0, 0);
        x.tenths(1, 0, 0, 4, 6);
        x.tenths(1, 3, 0, 2, 3);
        // Signs 1 and 2: both a third; sign 3: sure.
        due.is("21: sure", x.dread(), 3);
        x.tenths(1, 0, 0, 4, 1);
        due.is("21: the greatest of all", x.dread(), 2);
        for (int i = 1; i <= 5; i++) {
            x.sees(1);
        }
        due.that("21: five signs", x.dread() >= 1);
        x.sees(1);
        due.is("21: the diary is full", x.dread(), Due.NONE);
        MountainFarms y = new MountainFarms();
        y.tenths(0, 0, 10, 0, 0);
        y.tenths(1, 0, 0, 0, 0);
        y.sees(0);
        due.is("21: none can be seen next", y.dread(), Due.NONE);
        due.is("21: nothing changes", y.count(4), 1);
        y.burn();
        due.is("21: only the last one can", y.dread(), 3);
    }

    /** 22: "FLOW of a volume (1 to 99) from a CELL, as a set of CELLS. BEYOND." */
    private static void flow() {
        MountainFarms x = new MountainFarms();
        for (int cell : new int[] {0, 5, 30, 35}) {
            due.is("22: 1 from " + cell, x.flow(cell, 1), 1L << cell);
            due.that("22: 99 from " + cell, (x.flow(cell, 99) >> cell & 1) == 1);
        }
        due.is("22: cell -1", x.flow(-1, 1), Due.BEYOND);
        due.is("22: cell 36", x.flow(36, 1), Due.BEYOND);
        due.is("22: volume 0", x.flow(0, 0), Due.BEYOND);
        due.is("22: volume 100", x.flow(0, 100), Due.BEYOND);
        fallingRows(x);
    }

    /** Lava goes row by row to and fro over all cells: all 36 bits. */
    private static void fallingRows(MountainFarms x) {
        for (int row = 0; row < 5; row++) {
            for (int column = 0; column < 6; column++) {
                if (column != (row % 2 == 0 ? 5 : 0)) {
                    x.wall(6 * row + column, 6 * row + column + 6, true);
                }
            }
        }
        int height = 99;
        for (int row = 0; row < 6; row++) {
            for (int i = 0; i < 6; i++) {
                x.set(6 * row + (row % 2 == 0 ? i : 5 - i), 0, height);
                height--;
            }
        }
        due.is("22: all but the last cell", x.flow(0, 35), (1L << 36) - 1 - (1L << 30));
        due.is("22: all cells", x.flow(0, 36), (1L << 36) - 1);
    }

    /** 23: "HIT by a volume, as a set of FARMS. BEYOND." */
    private static void hit() {
        MountainFarms x = new MountainFarms();
        due.is("23: none", x.hit(99), 0);
        for (int farm = 0; farm < 11; farm++) {
            x.farm(4, 20 + farm, 0);
        }
        x.farm(4, 14, 0);
        due.is("23: the last farm", x.hit(1), 1 << 11);
        due.is("23: 0", x.hit(0), Due.BEYOND);
        due.is("23: 100", x.hit(100), Due.BEYOND);
        due.that("23: 99", x.hit(99) >= 1 << 11);
        due.is("23: all are burnt", withBurntOnes().hit(99), 0);
    }

    /** 24: "The least volume by which a FARM is HIT. BEYOND. STATE: BURNT. NONE: none up to 99." */
    private static void least() {
        MountainFarms x = new MountainFarms();
        due.is("24: no farm", x.least(0), Due.BEYOND);
        x.farm(0, 1, 0);
        x.farm(0, 0, 0);
        x.vent(0);
        x.wall(0, 6, true);
        x.set(0, 0, 0);
        for (int[] d : new int[][] {{0, 3}, {2, 3}, {3, 4}, {93, 34}, {95, 34}, {96, 35}, {98, 35}}) {
            x.set(1, 0, d[0]);
            due.is("24: over " + d[0], x.least(0), d[1]);
            due.is("24: with that it is hit", x.hit(d[1]), 3);
            due.is("24: with less it isn't", x.hit(d[1] - 1), 2);
        }
        x.set(1, 0, 99);
        due.is("24: none up to 99", x.least(0), Due.NONE);
        due.is("24: at the vent", x.least(1), 1);
        due.is("24: farm -1", x.least(-1), Due.BEYOND);
        due.is("24: farm 2", x.least(2), Due.BEYOND);
        due.is("24: burnt", withBurntOnes().least(0), Due.STATE);
    }

    /** 25: "those HIT with it that aren't without, as a set. BEYOND: also if they aren't BESIDE. STATE: there is one." */
    private static void turnsOn() {
        MountainFarms x = new MountainFarms();
        x.farm(4, 15, 0);
        x.farm(4, 14, 0);
        due.is("25: on to 15", x.turnsOn(14, 8, 2), 1);
        due.is("25: the other way", x.turnsOn(8, 14, 2), 1);
        due.is("25: too little", x.turnsOn(14, 8, 1), 0);
        due.is("25: a wall elsewhere", x.turnsOn(34, 35, 2), 0);
        due.is("25: 0", x.turnsOn(14, 8, 0), Due.BEYOND);
        due.is("25: 100", x.turnsOn(14, 8, 100), Due.BEYOND);
        for (int[] o : new int[][] {{5, 6}, {14, 14}, {14, 21}, {0, -1}, {-1, 0}, {35, 36}, {36, 35}, {0, 2}}) {
            due.is("25: " + o[0] + " and " + o[1], x.turnsOn(o[0], o[1], 2), Due.BEYOND);
        }
        x.wall(14, 20, true);
        due.is("25: there is one", x.turnsOn(14, 20, 2), Due.STATE);
        due.is("25: there is one, the other way", x.turnsOn(20, 14, 2), Due.STATE);
        due.is("25: BEYOND first", x.turnsOn(20, 14, 100), Due.BEYOND);
        x.wall(14, 8, true);
        due.is("25: there is one", x.turnsOn(14, 8, 2), Due.STATE);
        due.is("25: those hit without it aren't", x.turnsOn(14, 13, 2), 0);
        MountainFarms y = new MountainFarms();
        y.farm(4, 15, 0);
        y.vent(15);
        Due.makeItComeOut(y);
        y.volume(1);
        y.months(1);
        y.vent(14);
        due.is("25: a burnt one isn't hit", y.turnsOn(14, 8, 2), 0);
    }

    /** 26: "(fewer than without): 100 times the lesser CELL, and the other one; of several the least number. BEYOND." */
    private static void save() {
        int[][] pairs = {{0, 1, 1}, {1, 0, 1}, {0, 6, 6}, {6, 0, 6}, {34, 35, 3435}, {35, 34, 3435}, {29, 35, 2935},
            {35, 29, 2935}, {5, 11, 511}, {24, 30, 2430}, {14, 13, 1314}};
        for (int[] p : pairs) {
            MountainFarms x = new MountainFarms();
            x.vent(p[0]);
            x.set(p[1], 0, 0);
            x.farm(0, p[1], 0);
            due.is("26: from " + p[0] + " to " + p[1], x.save(2), p[2]);
            due.is("26: nothing to save by 1", x.save(1), Due.NONE);
            due.is("26: no wall came", x.count(2), 0);
        }
        MountainFarms x = new MountainFarms();
        x.farm(0, 4, 0);
        // Lava comes by 8, 2, 3 to 4: a wall 2|3 or 3|4 saves it, 2|8 and 8|14 turn it on by 9, 15.
        due.is("26: of several the least number", x.save(5), 203);
        due.is("26: 0", x.save(0), Due.BEYOND);
        due.is("26: 100", x.save(100), Due.BEYOND);
        due.is("26: 4 is too little", x.save(4), Due.NONE);
    }

    /** 26: "The WALL more by which fewest FARMS are HIT by a volume (fewer than without) .. NONE." */
    private static void saveWithoutAWall() {
        MountainFarms x = new MountainFarms();
        due.is("26: no farm", x.save(99), Due.NONE);
        x.farm(0, 14, 0);
        due.is("26: at the vent", x.save(99), Due.NONE);
        x.farm(0, 8, 0);
        x.farm(0, 15, 0);
        due.is("26: as many, another one", x.save(2), Due.NONE);
        x.wall(14, 15, true);
        due.is("26: one of two", x.save(2), 814);
        x.wall(14, 8, true);
        due.is("26: there is one already", x.save(2), Due.NONE);
        for (int cell = 0; cell < 36; cell++) {
            x.wall(cell, cell + 1, true);
            x.wall(cell, cell + 6, true);
        }
        due.is("26: walls all over", x.count(2), 60);
        due.is("26: no wall more can be", x.save(99), Due.NONE);
        due.is("26: all are burnt", withBurntOnes().save(99), Due.NONE);
    }

    /** 27: "VOLUME becomes v: what it was. BEYOND." */
    private static void volume() {
        MountainFarms x = new MountainFarms();
        due.is("27: the same", x.volume(12), 12);
        due.is("27: 1", x.volume(1), 12);
        due.is("27: 99", x.volume(99), 1);
        due.is("27: 0", x.volume(0), Due.BEYOND);
        due.is("27: 100", x.volume(100), Due.BEYOND);
        due.is("27: -1", x.volume(-1), Due.BEYOND);
        due.is("27: is", x.volume(99), 99);
    }

    /** 28: "Pigs are fed in this MONTH, or not: 1 if that is new, else 0." */
    private static void pigs() {
        MountainFarms x = new MountainFarms();
        due.is("28: not, not new", x.pigs(false), 0);
        due.is("28: new", x.pigs(true), 1);
        due.is("28: not new", x.pigs(true), 0);
        due.is("28: not, new", x.pigs(false), 1);
        due.is("28: new", x.pigs(true), 1);
        x.months(1);
        due.is("28: in the next month not, not new", x.pigs(false), 0);
        due.is("28: in the next month new", x.pigs(true), 1);
        due.is("28: fed", x.now(6), 1);
        due.is("28: no finding", x.status(-1), 0);
    }

    /** 29: "n MONTHS go (1 to 240): how often it came out. BEYOND. STATE: MONTH would be above 9999." */
    private static void months() {
        MountainFarms x = new MountainFarms();
        due.is("29: 0", x.months(0), Due.BEYOND);
        due.is("29: -1", x.months(-1), Due.BEYOND);
        due.is("29: 241", x.months(241), Due.BEYOND);
        due.is("29: none went", x.now(0), 0);
        Due.makeItPulse(x);
        due.is("29: 1", x.months(1), 1);
        due.is("29: 240", x.months(240), 120);
        due.is("29: went", x.now(0), 241);
        x = inMonth(9759);
        due.is("29: 240 to 9999", x.months(240), 0);
        due.is("29: 9999", x.now(0), 9999);
        due.is("29: 1 more", x.months(1), Due.STATE);
        due.is("29: BEYOND first", x.months(241), Due.BEYOND);
        x = inMonth(9760);
        due.is("29: 240 to 10000", x.months(240), Due.STATE);
        due.is("29: none went", x.now(0), 9760);
        due.is("29: 239", x.months(239), 0);
    }

    /** 30: "z becomes v: what it was." Any number, and none is a finding. */
    private static void seed() {
        MountainFarms x = new MountainFarms();
        int[] seeds = {0, -1, Integer.MAX_VALUE, Integer.MIN_VALUE, Due.BEYOND, Due.SIZE, 1};
        int was = 1;
        for (int seed : seeds) {
            due.is("30: was", x.seed(seed), was);
            due.is("30: is", x.count(5), seed);
            was = seed;
        }
        due.is("30: no finding", x.status(-1), 0);
        MountainFarms y = new MountainFarms();
        x.months(30);
        y.months(30);
        due.is("30: the same draws from the same z", x.now(1), y.now(1));
        due.is("30: the same draws from the same z", x.now(5), 2);
    }

    /** 31: "What 0 MONTH, 1 STATE, 2 VENT, 3 ASH, 4 VOLUME, 5 OUTS, 6 FED, 7 FED OUTS. BEYOND." */
    private static void now() {
        MountainFarms x = new MountainFarms();
        due.is("31: -1", x.now(-1), Due.BEYOND);
        due.is("31: 8", x.now(8), Due.BEYOND);
        Due.makeItPulse(x);
        x.vent(35);
        x.volume(99);
        for (int i = 0; i < 4; i++) {
            x.pigs(i < 3);
            x.months(1);
        }
        x.months(9);
        int[] dues = {13, 3, 35, 0, 99, 7, 3, 2};
        for (int what = 0; what < 8; what++) {
            due.is("31: what " + what, x.now(what), dues[what]);
        }
    }

    /** 32: ".. more often without them (.., exactly), 0 if as often, -1 if less often. NONE: FED is 0, or .. MONTH." */
    private static void doPigs() {
        MountainFarms x = new MountainFarms();
        due.is("32: no month", x.doPigs(), Due.NONE);
        x.pigs(true);
        due.is("32: told, not yet fed", x.doPigs(), Due.NONE);
        x.months(1);
        due.is("32: fed as much as MONTH", x.doPigs(), Due.NONE);
        x.months(1);
        due.is("32: never out", x.doPigs(), 0);
        MountainFarms y = new MountainFarms();
        y.months(1);
        due.is("32: fed is 0", y.doPigs(), Due.NONE);
        Due.makeItPulse(y);
        y.pigs(true);
        y.months(1);
        due.is("32: 0 of 1 without, 1 of 1 with", y.doPigs(), -1);
        y.pigs(true);
        y.months(1);
        due.is("32: 0 of 1 without, 1 of 2 with", y.doPigs(), -1);
        y.months(2);
        due.is("32: 1 of 3 without, 1 of 2 with: exactly", y.doPigs(), -1);
        y.months(1);
        due.is("32: 2 of 4 without, 1 of 2 with", y.doPigs(), 0);
        y.pigs(true);
        y.months(1);
        due.is("32: 2 of 4 without, 1 of 3 with: exactly", y.doPigs(), 1);
    }

    /** 33: "In how many MONTHS (1 to 240) ON it comes out next. STATE: MONTH is above 9759. NONE." */
    private static void out() {
        MountainFarms x = new MountainFarms();
        Due.makeItComeOut(x);
        due.is("33: 1", x.out(), 1);
        x.months(1);
        due.is("33: out already, and stays so", x.out(), Due.NONE);
        x.tenths(0, 3, 10, 0, 0);
        due.is("33: out already, the next time", x.out(), 2);
        // With these tenths z 912 lets it come out in 240 months first, z 374 in 241.
        x = new MountainFarms();
        Due.slope(x, "chance 0 9 1 0 0;chance 1 9 0 1 0;chance 2 9 0 0 1");
        x.seed(912);
        due.is("33: 240", x.out(), 240);
        due.is("33: just then", x.on(239, 2) == 3 ? 1 : 0, 0);
        due.is("33: just then", x.on(240, 2), 3);
        x.seed(374);
        due.is("33: 241", x.out(), Due.NONE);
        x = inMonth(9759);
        due.is("33: MONTH is 9759", x.out(), Due.NONE);
        x.months(1);
        due.is("33: MONTH is 9760", x.out(), Due.STATE);
        Due.makeItComeOut(x);
        due.is("33: STATE first", x.out(), Due.STATE);
        x.months(239);
        due.is("33: MONTH is 9999", x.out(), Due.STATE);
    }

    /** 34: "ON n MONTHS (0 to 240): what 0 .., 1 .., 2 STATE. BEYOND. STATE: MONTH would be above 9999." */
    private static void on() {
        MountainFarms x = new MountainFarms();
        x.farm(4, 14, 0);
        for (int what = 0; what < 3; what++) {
            due.is("34: 0 months", x.on(0, what), 0);
            due.is("34: -1", x.on(-1, what), Due.BEYOND);
            due.is("34: 241", x.on(241, what), Due.BEYOND);
        }
        due.is("34: what -1", x.on(0, -1), Due.BEYOND);
        due.is("34: what 3", x.on(0, 3), Due.BEYOND);
        int[] dues = {x.on(240, 0), x.on(240, 1), x.on(240, 2)};
        x.months(240);
        for (int what = 0; what < 3; what++) {
            due.is("34: 240 months, what " + what, x.on(0, what), dues[what]);
        }
        x = inMonth(9759);
        due.is("34: to 9999", x.on(240, 2), 0);
        x.months(1);
        due.is("34: to 10000", x.on(240, 2), Due.STATE);
        due.is("34: BEYOND first", x.on(241, 2), Due.BEYOND);
        due.is("34: BEYOND first", x.on(240, 3), Due.BEYOND);
        x.months(239);
        due.is("34: 0 months from 9999", x.on(0, 2), 0);
        due.is("34: 1 month from 9999", x.on(1, 2), Due.STATE);
        MountainFarms y = withBurntOnes();
        due.is("34: those burnt now", y.on(0, 0), 63);
        y.build(0);
        due.is("34: coins below 0", y.on(0, 1), -20);
    }

    /** 35: ".. brings most COINS together ON n MONTHS (1 to 240); of several the least. BEYOND. STATE likewise." */
    private static void crop() {
        MountainFarms x = new MountainFarms();
        due.is("35: no farm", x.crop(240), 0);
        due.is("35: 0", x.crop(0), Due.BEYOND);
        due.is("35: -1", x.crop(-1), Due.BEYOND);
        due.is("35: 241", x.crop(241), Due.BEYOND);
        Due.makeItRest(x);
        x.farm(5, 0, 0);
        due.is("35: no year is over", x.crop(11), 0);
        due.is("35: one year, of two the least", x.crop(12), 2);
        x.set(0, 1, 6);
        due.is("35: one year, vines and rye alike", x.crop(12), 2);
        x.set(0, 1, 49);
        due.is("35: one year, vines and old ones alike", x.crop(23), 2);
        due.is("35: two years, not alike", x.crop(24), 5);
        x.set(0, 1, 0);
        due.is("35: goats", x.crop(12), 4);
        x.months(11);
        due.is("35: 1", x.crop(1), 4);
        due.is("35: 240", x.crop(240), 2);
        due.is("35: nothing is sown", x.of(0, 0), 5);
        MountainFarms y = withBurntOnes();
        due.is("35: all are burnt", y.crop(240), 0);
        y.build(0);
        due.is("35: below 0, of several the least", y.crop(10), 0);
        cropBelowNought();
        x = inMonth(9759);
        due.is("35: to 9999", x.crop(240), 0);
        x.months(1);
        due.is("35: to 10000", x.crop(240), Due.STATE);
        due.is("35: BEYOND first", x.crop(241), Due.BEYOND);
        x.months(239);
        due.is("35: 1 from 9999", x.crop(1), Due.STATE);
        due.is("35: BEYOND first", x.crop(0), Due.BEYOND);
    }

    /** What brings most may leave less than nothing. */
    private static void cropBelowNought() {
        MountainFarms x = new MountainFarms();
        x.farm(0, 14, 0);
        x.farm(4, 35, 1);
        Due.makeItPulse(x);
        for (int i = 0; i < 5; i++) {
            x.months(i == 0 ? 1 : 2);
            x.build(0);
        }
        Due.makeItRest(x);
        due.is("35: coins", x.coins(0), -100);
        // New ground and old ground on new ash: RYE 23 and 33.
        due.is("35: all is below 0", x.crop(3), 3);
        due.is("35: of several below 0 the least", x.crop(2), 0);
    }
}
