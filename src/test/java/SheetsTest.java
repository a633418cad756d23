/** Promises 39 to 44: sheets. */
public final class SheetsTest {
    private static final Due due = new Due("SheetsTest");

    public static void main(String[] args) {
        sheet();
        write();
        copy();
        wrongCopies();
        lays();
        book();
        bookInFewBits();
        read();
        missing();
        due.end();
    }

    private static void sheet() {
        MountainFarms x = new MountainFarms();
        due.is("sheet: 8 bits", x.sheet(0, 8, 40), 40);
        due.is("sheet: 16 bits", x.sheet(3, 16, 1), 1);
        due.is("sheet: 64 bits", x.sheet(1, 64, 0), 0);
        due.is("sheet: 0 numbers are not missing", x.write(1, 0, 1), Due.BEYOND);
        x.write(0, 39, 5);
        x.write(0, 0, 5);
        due.is("sheet: anew", x.sheet(0, 8, 40), 40);
        due.is("sheet: all 0", x.write(0, 39, 5), 0);
        due.is("sheet: all 0", x.write(0, 0, 5), 0);
        due.is("sheet: missing", x.sheet(0, 0, 40), 0);
        due.is("sheet: missing", x.write(0, 0, 0), Due.MISSING);
        due.is("sheet: missing stays so", x.sheet(0, 0, 0), 0);
        due.is("sheet: the others stay", x.write(3, 0, 0), 0);
        int[][] wrong = {{-1, 8, 1}, {4, 8, 1}, {3, 1, 1}, {3, 32, 1}, {3, -8, 1}, {3, 64, 41}, {3, 0, 41},
            {3, 32, -1}, {4, 0, -1}, {3, 8, Integer.MAX_VALUE}};
        for (int[] w : wrong) {
            due.is("sheet: wrong " + w[0] + " " + w[1] + " " + w[2], x.sheet(w[0], w[1], w[2]), Due.BEYOND);
        }
        due.is("sheet: SIZE", x.sheet(3, 8, -1), Due.SIZE);
        due.is("sheet: SIZE with bits 0", x.sheet(3, 0, -1), Due.SIZE);
        due.is("sheet: SIZE", x.sheet(3, 64, Integer.MIN_VALUE), Due.SIZE);
        due.is("sheet: SIZE was told", x.status(6), 3);
        due.is("sheet: it stays", x.write(3, 0, 0), 0);
        due.is("sheet: all 0 again when it comes back", x.sheet(0, 8, 40), 40);
        due.is("sheet: all 0 again when it comes back", x.write(0, 39, 0), 0);
    }

    private static void write() {
        MountainFarms x = new MountainFarms();
        x.sheet(0, 8, 2);
        x.sheet(1, 16, 2);
        x.sheet(2, 64, 40);
        due.is("write: was", x.write(0, 0, 200), 0);
        due.is("write: 8 bits with a sign", x.write(0, 0, 0x17f), -56);
        due.is("write: the lowest bits", x.write(0, 0, -129), 127);
        due.is("write: the lowest bits", x.write(0, 0, 0), 127);
        due.is("write: 16 bits", x.write(1, 1, 40000), 0);
        due.is("write: with a sign", x.write(1, 1, 0x12345L), -25536);
        due.is("write: the lowest bits", x.write(1, 1, 0), 0x2345);
        due.is("write: 64 bits", x.write(2, 39, Long.MIN_VALUE), 0);
        due.is("write: all bits", x.write(2, 39, Due.FULL), Long.MIN_VALUE);
        due.is("write: no finding", x.write(2, 39, 0), Due.FULL);
        due.is("write: the other ones stay", x.write(0, 1, 0), 0);
        due.is("write: nothing is told", x.status(-1), 0);
        due.is("write: no such number", x.write(0, 2, 1), Due.BEYOND);
        due.is("write: no such number", x.write(0, -1, 1), Due.BEYOND);
        due.is("write: no such number", x.write(2, 40, 1), Due.BEYOND);
        due.is("write: no such sheet", x.write(4, 0, 1), Due.BEYOND);
        due.is("write: no such sheet", x.write(-1, 0, 1), Due.BEYOND);
        due.is("write: MISSING first", x.write(3, -1, 1), Due.MISSING);
    }

    private static void copy() {
        MountainFarms x = new MountainFarms();
        x.sheet(0, 16, 5);
        x.sheet(1, 16, 3);
        for (int i = 0; i < 5; i++) {
            x.write(0, i, 10 + i);
        }
        due.is("copy: to another one", x.copy(0, 3, 1, 1, 2), 2);
        long[] one = {0, 13, 14};
        for (int i = 0; i < 3; i++) {
            due.is("copy: number " + i, x.write(1, i, one[i]), one[i]);
        }
        due.is("copy: on to itself, to the right", x.copy(0, 0, 0, 1, 4), 4);
        long[] right = {10, 10, 11, 12, 13};
        for (int i = 0; i < 5; i++) {
            due.is("copy: to the right " + i, x.write(0, i, 20 + i), right[i]);
        }
        due.is("copy: on to itself, to the left", x.copy(0, 1, 0, 0, 4), 4);
        long[] left = {21, 22, 23, 24, 24};
        for (int i = 0; i < 5; i++) {
            due.is("copy: to the left " + i, x.write(0, i, left[i]), left[i]);
        }
        due.is("copy: all", x.copy(1, 0, 0, 2, 3), 3);
        due.is("copy: none", x.copy(0, 5, 1, 3, 0), 0);
        due.is("copy: none", x.copy(0, 0, 1, 0, 0), 0);
        due.is("copy: nothing is told", x.status(-1), 0);
    }

    private static void wrongCopies() {
        MountainFarms x = new MountainFarms();
        x.sheet(0, 8, 4);
        x.sheet(1, 8, 3);
        x.sheet(2, 64, 4);
        int most = Integer.MAX_VALUE;
        int[][] beyond = {{-1, 0, 0, 0, 1}, {0, 0, 4, 0, 1}, {4, 0, 3, 0, 1}, {3, 0, -1, 0, 1}, {0, 0, 1, 0, 4},
            {0, 2, 1, 0, 3}, {0, 0, 1, 2, 2}, {0, -1, 1, 0, 1}, {0, 0, 1, -1, 1}, {0, 0, 1, 0, -1}, {0, 5, 1, 0, 0},
            {0, 0, 1, 4, 0}, {0, most, 1, 0, 1}, {0, 1, 1, 0, most}, {0, 0, 1, most, most}, {0, most, 1, most, most}};
        for (int[] b : beyond) {
            due.is("copy: BEYOND " + b[0] + " " + b[1] + " " + b[2] + " " + b[3] + " " + b[4],
                x.copy(b[0], b[1], b[2], b[3], b[4]), Due.BEYOND);
        }
        due.is("copy: MISSING", x.copy(0, 0, 3, 0, 1), Due.MISSING);
        due.is("copy: MISSING", x.copy(3, 0, 0, 0, -1), Due.MISSING);
        due.is("copy: MISSING from itself", x.copy(3, 0, 3, 0, 0), Due.MISSING);
        due.is("copy: KIND", x.copy(0, 0, 2, 0, 1), Due.KIND);
        due.is("copy: KIND first", x.copy(2, 9, 0, 0, -1), Due.KIND);
        due.is("copy: findings", x.status(-1), beyond.length + 5);
    }

    private static void lays() {
        MountainFarms x = new MountainFarms();
        x.sheet(0, 16, 40);
        long[] heights = {0, 99, 100, -1, 7};
        for (int i = 0; i < heights.length; i++) {
            x.write(0, i, heights[i]);
        }
        for (int i = heights.length; i < 40; i++) {
            x.write(0, i, 50);
        }
        x.write(0, 35, 3);
        due.is("lays: 36 less 2", x.lays(0), 34);
        int[] now = {0, 99, 40, 35, 7, 50};
        for (int cell = 0; cell < now.length; cell++) {
            due.is("lays: height of " + cell, x.cellOf(cell, 0), now[cell]);
        }
        due.is("lays: the last cell", x.cellOf(35, 0), 3);
        due.is("lays: ages stay", x.cellOf(0, 1), 20);
        x.sheet(1, 64, 2);
        x.write(1, 0, 4294967296L + 5);
        x.write(1, 1, 88);
        due.is("lays: only one may be", x.lays(1), 1);
        due.is("lays: too great", x.cellOf(0, 0), 0);
        due.is("lays: as far as there are numbers", x.cellOf(1, 0), 88);
        due.is("lays: as far as there are numbers", x.cellOf(2, 0), 40);
        x.sheet(2, 8, 0);
        due.is("lays: none", x.lays(2), 0);
    }

    private static void book() {
        MountainFarms x = new MountainFarms();
        Due.makeItRest(x);
        x.farm(0, 0, 0);
        x.farm(4, 1, 0);
        x.farm(3, 2, 0);
        x.months(12);
        x.sheet(0, 64, 5);
        x.write(0, 3, 77);
        due.is("book: all farms", x.book(0), 3);
        long[] dues = {10, 6, 13, 77, 0};
        for (int i = 0; i < 5; i++) {
            due.is("book: number " + i, x.write(0, i, 0), dues[i]);
        }
        x.sheet(0, 16, 2);
        due.is("book: as far as it has numbers", x.book(0), 2);
        due.is("book: number", x.write(0, 1, 0), 6);
        x.sheet(0, 16, 0);
        due.is("book: no number", x.book(0), 0);
        due.is("book: coins stay", x.coins(0), 29);
    }

    private static void bookInFewBits() {
        MountainFarms x = new MountainFarms();
        Due.makeItRest(x);
        x.farm(0, 0, 0);
        x.months(240);
        x.sheet(0, 8, 1);
        due.is("book: coins", x.of(0, 3), 200);
        due.is("book: in 8 bits", x.book(0), 1);
        due.is("book: the lowest bits", x.write(0, 0, 0), -56);
        MountainFarms y = new MountainFarms();
        y.farm(0, 14, 0);
        Due.makeItComeOut(y);
        y.months(1);
        y.build(0);
        y.sheet(0, 16, 1);
        y.book(0);
        due.is("book: below 0", y.write(0, 0, 0), -20);
    }

    private static void read() {
        MountainFarms x = new MountainFarms();
        int[] states = {0, 0, 0, 0, 0, 1, 1, 1, 1, 2, 3, 3, 3, 3, 3, 3, 0, 0, 1, 1, 2, 2, 3, 3, 3, 3, 3, 0, 0, 1, 2};
        x.sheet(0, 8, states.length);
        for (int i = 0; i < states.length; i++) {
            x.write(0, i, states[i]);
        }
        due.is("read: all are", x.read(0), 0);
        x.write(0, 30, 3);
        due.is("read: the last one isn't", x.read(0), 31);
        x.write(0, 5, 0);
        due.is("read: the first that isn't", x.read(0), 6);
        x.write(0, 0, -1);
        due.is("read: now", x.read(0), 1);
        due.is("read: nothing changes", x.now(0), 0);
        due.is("read: nothing changes", x.count(5), 1);
        x.sheet(1, 64, 1);
        x.write(1, 0, 4294967296L);
        due.is("read: all its bits", x.read(1), 1);
        x.sheet(1, 64, 0);
        due.is("read: no numbers", x.read(1), 0);
    }

    private static void missing() {
        MountainFarms x = new MountainFarms();
        due.is("lays(0)", x.lays(0), Due.MISSING);
        due.is("book(0)", x.book(0), Due.MISSING);
        due.is("read(0)", x.read(0), Due.MISSING);
        int[] wrong = {-1, 4, Integer.MAX_VALUE, Integer.MIN_VALUE};
        for (int s : wrong) {
            due.is("lays(" + s + ")", x.lays(s), Due.BEYOND);
            due.is("book(" + s + ")", x.book(s), Due.BEYOND);
            due.is("read(" + s + ")", x.read(s), Due.BEYOND);
        }
        due.is("missing: told", x.status(5), 3);
        due.is("missing: beyond told", x.status(0), 12);
    }
}
