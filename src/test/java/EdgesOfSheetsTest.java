import java.util.List;

/** The boundary cases that promises 39 to 49 name, one function a promise, with its words above it. */
public final class EdgesOfSheetsTest {
    private static final Due due = new Due("EdgesOfSheetsTest");

    public static void main(String[] args) {
        sheet();
        sheetAnew();
        write();
        writeGoesRound();
        copy();
        copyAsTheyAllWere();
        copyNone();
        lays();
        book();
        bookGoesRound();
        read();
        image();
        undo();
        tear();
        count();
        status();
        due.end();
    }

    private static void isRow(String what, MountainFarms x, int s, long... row) {
        for (int i = 0; i < row.length; i++) {
            due.is(what + ", number " + i, x.write(s, i, row[i]), row[i]);
        }
    }

    private static void fill(MountainFarms x, int s, int bits, long... row) {
        due.is("a sheet of " + row.length, x.sheet(s, bits, row.length), row.length);
        for (int i = 0; i < row.length; i++) {
            due.is("0 at first", x.write(s, i, row[i]), 0);
        }
    }

    /** 39: "n numbers, all 0, of 8, 16 or 64 bits; bits 0: it is MISSING: n (0 if it is MISSING)"; its findings. */
    private static void sheet() {
        MountainFarms x = new MountainFarms();
        for (int bits : new int[] {8, 16, 64}) {
            due.is("39: no number", x.sheet(3, bits, 0), 0);
            due.is("39: it isn't missing", x.write(3, 0, 0), Due.BEYOND);
            due.is("39: 40 numbers", x.sheet(3, bits, 40), 40);
            due.is("39: 41 numbers", x.sheet(3, bits, 41), Due.BEYOND);
            due.is("39: -1 numbers", x.sheet(3, bits, -1), Due.SIZE);
            due.is("39: the last one", x.write(3, 39, 1), 0);
            due.is("39: none behind it", x.write(3, 40, 1), Due.BEYOND);
        }
        due.is("39: bits 0, -1", x.sheet(3, 0, -1), Due.SIZE);
        due.is("39: bits 0, 41", x.sheet(3, 0, 41), Due.BEYOND);
        due.is("39: refused, it is still there", x.write(3, 39, 1), 1);
        due.is("39: bits 0, 40", x.sheet(3, 0, 40), 0);
        due.is("39: missing", x.write(3, 0, 0), Due.MISSING);
        due.is("39: missing again", x.sheet(3, 0, 0), 0);
        for (int bits : new int[] {-1, 1, 7, 9, 24, 32, 63, 65}) {
            due.is("39: " + bits + " bits", x.sheet(0, bits, 1), Due.BEYOND);
            due.is("39: " + bits + " bits, BEYOND first", x.sheet(0, bits, -1), Due.BEYOND);
        }
        for (int s : new int[] {-1, 4}) {
            due.is("39: sheet " + s, x.sheet(s, 8, 1), Due.BEYOND);
            due.is("39: sheet " + s + ", BEYOND first", x.sheet(s, 8, -1), Due.BEYOND);
        }
    }

    /** "n numbers, all 0": also where there were others, more, fewer or of other bits. */
    private static void sheetAnew() {
        MountainFarms x = new MountainFarms();
        fill(x, 0, 8, 1, 2, 3);
        fill(x, 1, 8, 7, 7);
        fill(x, 0, 64, 4, 5, 6, 7);
        due.is("39: fewer", x.sheet(0, 64, 2), 2);
        isRow("39: all 0", x, 0, 0, 0);
        due.is("39: more again", x.sheet(0, 64, 4), 4);
        isRow("39: all 0", x, 0, 0, 0, 0, 0);
        x.write(0, 1, 9);
        x.sheet(0, 0, 4);
        fill(x, 0, 16, 1, 2);
        isRow("39: the other sheet stays", x, 1, 7, 7);
    }

    /** 40: "Number i of a sheet becomes v (its lowest bits): what it was. BEYOND: .. MISSING. BEYOND: no such number." */
    private static void write() {
        MountainFarms x = new MountainFarms();
        due.is("40: missing", x.write(0, 0, 1), Due.MISSING);
        due.is("40: missing, no such number", x.write(0, -1, 1), Due.MISSING);
        due.is("40: sheet -1", x.write(-1, 0, 1), Due.BEYOND);
        due.is("40: sheet 4", x.write(4, 0, 1), Due.BEYOND);
        x.sheet(3, 16, 2);
        due.is("40: the first", x.write(3, 0, 5), 0);
        due.is("40: the last", x.write(3, 1, 6), 0);
        due.is("40: -1", x.write(3, -1, 1), Due.BEYOND);
        due.is("40: 2", x.write(3, 2, 1), Due.BEYOND);
        isRow("40: they stay", x, 3, 5, 6);
        x.sheet(3, 16, 3);
        due.is("40: 2 now", x.write(3, 2, 1), 0);
    }

    private static void writeGoesRound() {
        MountainFarms x = new MountainFarms();
        for (int s = 0; s < 3; s++) {
            x.sheet(s, s == 0 ? 8 : s == 1 ? 16 : 64, 1);
        }
        long[][] dues = {{0, 127, 127}, {0, 128, -128}, {0, -128, -128}, {0, -129, 127}, {0, 255, -1}, {0, 256, 0},
            {0, 0x1234567890abcd7fL, 127}, {0, Long.MIN_VALUE, 0}, {0, Long.MAX_VALUE, -1}, {1, 32767, 32767},
            {1, 32768, -32768}, {1, -32768, -32768}, {1, -32769, 32767}, {1, 65535, -1}, {1, 65536, 0}, {1, 200, 200},
            {1, Long.MIN_VALUE, 0}, {1, Long.MAX_VALUE, -1}, {2, Long.MAX_VALUE, Long.MAX_VALUE},
            {2, Long.MIN_VALUE, Long.MIN_VALUE}, {2, 4294967296L, 4294967296L}, {2, -1, -1}};
        for (long[] d : dues) {
            x.write((int) d[0], 0, d[1]);
            due.is("40: " + d[1] + " on sheet " + d[0], x.write((int) d[0], 0, 0), d[2]);
        }
        x.write(2, 0, Due.MISSING);
        due.is("40: it was a number like a finding", x.write(2, 0, 0), Due.MISSING);
        due.is("40: that is none", x.status(-1), 0);
    }

    /** 41: "BEYOND: no such sheet (either). MISSING: one is. KIND: ..". */
    private static void copy() {
        MountainFarms x = new MountainFarms();
        fill(x, 0, 8, 1, 2, 3);
        fill(x, 1, 8, 4, 5);
        fill(x, 2, 16, 6, 7);
        due.is("41: s -1", x.copy(-1, 0, 1, 0, 1), Due.BEYOND);
        due.is("41: s 4", x.copy(4, 0, 1, 0, 1), Due.BEYOND);
        due.is("41: t -1", x.copy(0, 0, -1, 0, 1), Due.BEYOND);
        due.is("41: t 4", x.copy(0, 0, 4, 0, 1), Due.BEYOND);
        due.is("41: t 4, s is missing", x.copy(3, 0, 4, 0, 1), Due.BEYOND);
        due.is("41: s is missing", x.copy(3, 0, 0, 0, 1), Due.MISSING);
        due.is("41: t is missing", x.copy(0, 0, 3, 0, 1), Due.MISSING);
        due.is("41: t is missing, too many", x.copy(0, 0, 3, 0, 9), Due.MISSING);
        due.is("41: other bits", x.copy(0, 0, 2, 0, 1), Due.KIND);
        due.is("41: other bits, too many", x.copy(2, 0, 1, 0, 9), Due.KIND);
        due.is("41: other bits, -1", x.copy(2, 0, 1, 0, -1), Due.KIND);
        int[][] beyond = {{0, 0, 3}, {1, 0, 3}, {2, 0, 2}, {3, 0, 1}, {0, 1, 2}, {0, 2, 1}, {-1, 0, 1}, {0, -1, 1},
            {0, 0, -1}, {2, 1, -1}, {4, 0, -1}, {Integer.MAX_VALUE, 0, 1}, {0, Integer.MAX_VALUE, 1},
            {0, 0, Integer.MAX_VALUE}, {1, 1, Integer.MAX_VALUE}, {Integer.MAX_VALUE, 0, Integer.MAX_VALUE},
            {Integer.MIN_VALUE, 0, 1}, {0, 0, Integer.MIN_VALUE}, {Integer.MIN_VALUE, 0, Integer.MIN_VALUE}};
        for (int[] b : beyond) {
            due.is("41: " + b[0] + " " + b[1] + " " + b[2], x.copy(0, b[0], 1, b[1], b[2]), Due.BEYOND);
        }
        isRow("41: refused", x, 0, 1, 2, 3);
        isRow("41: refused", x, 1, 4, 5);
        due.is("41: up to both ends", x.copy(0, 1, 1, 0, 2), 2);
        isRow("41: came", x, 1, 2, 3);
        isRow("41: stay", x, 0, 1, 2, 3);
        due.is("41: the whole other one", x.copy(1, 0, 0, 1, 2), 2);
    }

    /** "n numbers of a sheet from one on come to another one from one on (as they all were)". */
    private static void copyAsTheyAllWere() {
        MountainFarms x = new MountainFarms();
        for (int by = 1; by < 4; by++) {
            fill(x, 0, 64, 1, -2, Long.MAX_VALUE, Long.MIN_VALUE, 5);
            long[] row = {1, -2, Long.MAX_VALUE, Long.MIN_VALUE, 5};
            due.is("41: up by " + by, x.copy(0, 0, 0, by, 5 - by), 5 - by);
            for (int i = 0; i < 5; i++) {
                due.is("41: up by " + by + ", number " + i, x.write(0, i, row[i]), i < by ? row[i] : row[i - by]);
            }
            due.is("41: down by " + by, x.copy(0, by, 0, 0, 5 - by), 5 - by);
            for (int i = 0; i < 5; i++) {
                due.is("41: down by " + by + ", number " + i, x.write(0, i, 0), i + by < 5 ? row[i + by] : row[i]);
            }
        }
        fill(x, 0, 8, -128, 127);
        due.is("41: on to itself", x.copy(0, 0, 0, 0, 2), 2);
        isRow("41: on to itself", x, 0, -128, 127);
        x.sheet(1, 16, 40);
        x.sheet(2, 16, 40);
        x.write(1, 39, -32768);
        due.is("41: 40", x.copy(1, 0, 2, 0, 40), 40);
        due.is("41: the last one", x.write(2, 39, 0), -32768);
    }

    /** "BEYOND: one has not so many (n 0, too), or from, to or n is below 0." */
    private static void copyNone() {
        MountainFarms x = new MountainFarms();
        fill(x, 0, 8, 1, 2, 3);
        fill(x, 1, 8, 4, 5);
        x.sheet(2, 8, 0);
        due.is("41: none", x.copy(0, 0, 1, 0, 0), 0);
        due.is("41: none, at the ends", x.copy(0, 3, 1, 2, 0), 0);
        due.is("41: none, behind s", x.copy(0, 4, 1, 0, 0), Due.BEYOND);
        due.is("41: none, behind t", x.copy(0, 0, 1, 3, 0), Due.BEYOND);
        due.is("41: none, from -1", x.copy(0, -1, 1, 0, 0), Due.BEYOND);
        due.is("41: none, to -1", x.copy(0, 0, 1, -1, 0), Due.BEYOND);
        due.is("41: none to an empty sheet", x.copy(0, 0, 2, 0, 0), 0);
        due.is("41: none of an empty sheet", x.copy(2, 0, 0, 3, 0), 0);
        due.is("41: one to an empty sheet", x.copy(0, 0, 2, 0, 1), Due.BEYOND);
        due.is("41: one of an empty sheet", x.copy(2, 0, 0, 0, 1), Due.BEYOND);
        isRow("41: none came", x, 1, 4, 5);
    }

    /** 42: "HEIGHTS of CELLS 0, 1, .. (those that aren't 0 to 99, or stand for none, are left out): how many came." */
    private static void lays() {
        MountainFarms x = new MountainFarms();
        due.is("42: missing", x.lays(0), Due.MISSING);
        due.is("42: -1", x.lays(-1), Due.BEYOND);
        due.is("42: 4", x.lays(4), Due.BEYOND);
        x.sheet(0, 64, 0);
        due.is("42: no number", x.lays(0), 0);
        fill(x, 0, 64, 0, 99, -1, 100, 4294967296L, -4294967295L, Long.MIN_VALUE, 7);
        due.is("42: three of eight", x.lays(0), 3);
        int[] heights = {0, 99, 40, 35, 30, 25, 35, 7, 45};
        for (int cell = 0; cell < heights.length; cell++) {
            due.is("42: height of " + cell, x.cellOf(cell, 0), heights[cell]);
        }
        x.sheet(3, 8, 36);
        due.is("42: 36", x.lays(3), 36);
        x.sheet(3, 8, 37);
        due.is("42: 37 stand for 36", x.lays(3), 36);
        x.sheet(3, 8, 40);
        x.write(3, 35, 99);
        x.write(3, 36, 98);
        due.is("42: 40 stand for 36", x.lays(3), 36);
        due.is("42: the last cell", x.cellOf(35, 0), 99);
        due.is("42: the first cell", x.cellOf(0, 0), 0);
        x.write(3, 0, 128);
        due.is("42: 128 went round", x.lays(3), 35);
        due.is("42: ages stay", x.cellOf(35, 1), 20);
    }

    /** 43: "COINS of FARMS 0, 1, .. come to a sheet, as far as it has numbers: how many." */
    private static void book() {
        MountainFarms x = new MountainFarms();
        due.is("43: missing", x.book(0), Due.MISSING);
        due.is("43: -1", x.book(-1), Due.BEYOND);
        due.is("43: 4", x.book(4), Due.BEYOND);
        fill(x, 0, 8, 1, 2, 3);
        due.is("43: no farm", x.book(0), 0);
        isRow("43: no farm", x, 0, 1, 2, 3);
        Due.makeItRest(x);
        x.farm(4, 0, 0);
        x.farm(0, 1, 0);
        x.months(12);
        due.is("43: fewer farms", x.book(0), 2);
        isRow("43: fewer farms", x, 0, 6, 10, 3);
        x.sheet(0, 8, 2);
        due.is("43: as many", x.book(0), 2);
        x.sheet(0, 8, 1);
        due.is("43: fewer numbers", x.book(0), 1);
        isRow("43: fewer numbers", x, 0, 6);
        x.sheet(0, 8, 0);
        due.is("43: no number", x.book(0), 0);
        for (int i = 2; i < 12; i++) {
            x.farm(4, i, 0);
        }
        x.sheet(3, 64, 40);
        due.is("43: twelve", x.book(3), 12);
        x.months(12);
        x.book(3);
        due.is("43: the twelfth", x.write(3, 11, 0), 6);
        due.is("43: the 13th number", x.write(3, 12, 0), 0);
    }

    private static void bookGoesRound() {
        MountainFarms x = new MountainFarms();
        Due.makeItRest(x);
        x.farm(4, 0, 0);
        x.farm(5, 1, 0);
        x.set(1, 1, 99);
        for (int i = 0; i < 37; i++) {
            x.months(240);
        }
        // 740 years of 6 and of 45.
        due.is("43: coins", x.of(0, 3), 4440);
        due.is("43: coins", x.of(1, 3), 33300);
        fill(x, 0, 8, 0, 0);
        fill(x, 1, 16, 0, 0);
        fill(x, 2, 64, 0, 0);
        for (int s = 0; s < 3; s++) {
            due.is("43: two", x.book(s), 2);
        }
        isRow("43: 8 bits", x, 0, 4440 - 17 * 256, 33300 - 130 * 256);
        isRow("43: 16 bits", x, 1, 4440, 33300 - 65536);
        isRow("43: 64 bits", x, 2, 4440, 33300);
    }

    /** 44: "0 if all are, else 1 and the place of the first that isn't. BEYOND: .. MISSING. STATE: MONTH is above 9959." */
    private static void read() {
        MountainFarms x = new MountainFarms();
        due.is("44: missing", x.read(0), Due.MISSING);
        due.is("44: -1", x.read(-1), Due.BEYOND);
        due.is("44: 4", x.read(4), Due.BEYOND);
        x.sheet(0, 8, 0);
        due.is("44: no number", x.read(0), 0);
        Due.makeItPulse(x);
        x.sheet(0, 8, 40);
        for (int i = 0; i < 40; i++) {
            x.write(0, i, i % 2 * 3);
        }
        due.is("44: all 40 are", x.read(0), 0);
        x.write(0, 39, 2);
        due.is("44: the last isn't", x.read(0), 40);
        x.write(0, 1, -1);
        due.is("44: the first that isn't", x.read(0), 2);
        x.write(0, 0, 4);
        due.is("44: the one of now isn't", x.read(0), 1);
        fill(x, 1, 64, 4294967296L, 0);
        due.is("44: no state at all", x.read(1), 1);
        due.is("44: nothing changes", x.now(0), 0);
        MountainFarms y = new MountainFarms();
        Due.makeItRest(y);
        for (int i = 0; i < 41; i++) {
            y.months(240);
        }
        y.months(119);
        y.sheet(0, 8, 40);
        y.sheet(1, 8, 0);
        due.is("44: MONTH is 9959", y.read(0), 0);
        y.months(1);
        due.is("44: MONTH is 9960", y.read(0), Due.STATE);
        due.is("44: no number, STATE all the same", y.read(1), Due.STATE);
        due.is("44: MISSING first", y.read(2), Due.MISSING);
        due.is("44: BEYOND first", y.read(4), Due.BEYOND);
    }

    /** 45: "All that section 1 tells (THE TAPE not) is kept: 1." */
    private static void image() {
        MountainFarms x = new MountainFarms();
        due.is("45: image", x.image(), 1);
        due.is("45: image again", x.image(), 1);
        Due.feed(x, "vent 7");
        x.image();
        x.wipe();
        x.undo();
        due.is("45: the tape isn't kept", x.count(3), 0);
        x.sheet(0, 8, 2);
        x.image();
        x.sheet(0, 0, 0);
        x.undo();
        due.is("45: nor are the sheets", x.write(0, 0, 0), Due.MISSING);
        MountainFarms y = eventful();
        MountainFarms twin = eventful();
        y.image();
        due.that("45: nothing changes", Snapshot.of(y).equals(keptSnapshotOf(twin)));
        y = eventful();
        y.image();
        change(y);
        y.undo();
        twin = eventful();
        due.that("45: all is kept", Snapshot.of(y).equals(keptSnapshotOf(twin)));
    }

    /** The snapshot of one that keeps an image of what is. */
    private static List<Long> keptSnapshotOf(MountainFarms x) {
        x.image();
        return Snapshot.of(x);
    }

    private static MountainFarms eventful() {
        MountainFarms x = new MountainFarms();
        x.farm(2, 14, 3);
        x.farm(1, 0, 4);
        x.wall(0, 1, true);
        x.pigs(true);
        x.months(13);
        x.sees(1);
        x.sees(3);
        x.tenths(0, 1, 1, 2, 3);
        x.tenths(1, 2, 4, 3, 2);
        x.volume(40);
        x.set(3, 0, 3);
        x.set(4, 1, 4);
        x.vent(20);
        x.pigs(true);
        return x;
    }

    private static void change(MountainFarms x) {
        x.pigs(false);
        x.vent(0);
        x.volume(99);
        x.farm(3, 35, 5);
        x.sow(0, 5);
        x.build(0);
        x.wall(0, 1, false);
        x.wall(34, 35, true);
        x.burn();
        x.sees(2);
        Due.makeItPulse(x);
        x.tenths(1, 1, 1, 1, 1);
        x.months(50);
        Due.makeItComeOut(x);
        x.tenths(0, 3, 10, 0, 0);
        for (int i = 0; i < 2; i++) {
            x.pigs(true);
            x.months(1);
        }
        x.seed(77);
        x.set(14, 0, 99);
    }

    /** 46: "It becomes what was kept latest (which stays): how many FARMS. NONE: nothing is kept." */
    private static void undo() {
        MountainFarms x = new MountainFarms();
        due.is("46: nothing is kept", x.undo(), Due.NONE);
        x.image();
        for (int i = 0; i < 12; i++) {
            x.farm(4, i, 0);
        }
        due.is("46: no farm", x.undo(), 0);
        due.is("46: the kept one stays", x.undo(), 0);
        for (int i = 0; i < 12; i++) {
            x.farm(4, 12 + i, 0);
        }
        x.image();
        due.is("46: the latest", x.undo(), 12);
        due.is("46: twelve are enough", x.farm(0, 0, 0), Due.FULL);
        x.months(240);
        x.undo();
        due.is("46: month", x.now(0), 0);
        x.vent(1);
        x.undo();
        due.is("46: the kept one stays", x.now(2), 14);
        x.tear();
        x.vent(1);
        due.is("46: torn", x.undo(), Due.NONE);
        due.is("46: nothing changes", x.now(2), 1);
        due.is("46: findings stay", x.status(3), 2);
    }

    /** 47: "Nothing is kept: 1 if something was, else 0." */
    private static void tear() {
        MountainFarms x = new MountainFarms();
        due.is("47: nothing was", x.tear(), 0);
        x.image();
        x.image();
        due.is("47: something was", x.tear(), 1);
        due.is("47: nothing was, two images or not", x.tear(), 0);
        due.is("47: nothing is kept", x.undo(), Due.NONE);
        x.image();
        x.undo();
        due.is("47: behind an undo something is", x.tear(), 1);
        due.is("47: one finding", x.status(-1), 1);
    }

    /** 48: "0 FARMS, 1 .. BURNT, 2 WALLS, 3 bytes .., 4 SIGNS .., 5 z (any number). BEYOND: another what." */
    private static void count() {
        MountainFarms x = new MountainFarms();
        due.is("48: -1", x.count(-1), Due.BEYOND);
        due.is("48: 6", x.count(6), Due.BEYOND);
        for (int i = 0; i < 12; i++) {
            x.farm(4, i, 0);
            x.set(i, 0, 90 - (i < 6 ? i : 17 - i));
        }
        x.vent(0);
        for (int i = 0; i < 5; i++) {
            x.wall(i, i + 6, true);
        }
        for (int i = 6; i < 12; i++) {
            x.wall(i, i + 6, true);
        }
        due.is("48: walls", x.count(2), 11);
        Due.makeItComeOut(x);
        x.months(1);
        due.is("48: all are burnt", x.count(1), 12);
        due.is("48: farms", x.count(0), 12);
        for (int i = 0; i < 30; i++) {
            x.feed(0, 4);
        }
        due.is("48: a full tape", x.count(3), 120);
        for (int i = 0; i < 6; i++) {
            x.sees(0);
        }
        due.is("48: a full diary", x.count(4), 6);
        for (int z : new int[] {0, -1, Integer.MIN_VALUE, Integer.MAX_VALUE, Due.BEYOND}) {
            x.seed(z);
            due.is("48: z", x.count(5), z);
        }
        due.is("48: z is no finding", x.status(-1), 2);
        x.build(3);
        due.is("48: one less is burnt", x.count(1), 11);
    }

    /** 49: "How many acts answered a finding ever (undo() takes none back) .. BEYOND (counted from then on)". */
    private static void status() {
        MountainFarms x = new MountainFarms();
        for (int which = -1; which < 7; which++) {
            due.is("49: none yet", x.status(which), 0);
        }
        due.is("49: 7", x.status(7), Due.BEYOND);
        due.is("49: counted from then on", x.status(0), 1);
        due.is("49: -2", x.status(-2), Due.BEYOND);
        due.is("49: counted from then on", x.status(-1), 2);
        x.image();
        x.sheet(0, 8, -1);
        x.undo();
        due.is("49: undo takes none back", x.status(6), 1);
        x.wipe();
        x.tear();
        x.slope();
        due.is("49: a fault is none", x.status(-1), 3);
        x.undo();
        due.is("49: NONE", x.status(3), 1);
        x.weight(9);
        x.flow(9, 0);
        x.write(0, 0, 0);
        due.is("49: those of longs, too", x.status(0), 4);
        due.is("49: those of longs, too", x.status(5), 1);
        due.is("49: all", x.status(-1), 7);
    }
}
