/** Promises 45 to 49: what is kept, counted and told. */
public final class ImagesTest {
    private static final Due due = new Due("ImagesTest");

    public static void main(String[] args) {
        nothingKept();
        undoTakesAllBack();
        undoLeavesTheRest();
        keptLatest();
        keptStays();
        tear();
        newFarmBehindUndo();
        count();
        status();
        findingsChangeNothing();
        due.end();
    }

    private static void nothingKept() {
        MountainFarms x = new MountainFarms();
        due.is("undo: nothing is kept", x.undo(), Due.NONE);
        due.is("tear: nothing is kept", x.tear(), 0);
        due.is("image()", x.image(), 1);
        due.is("undo: no farms", x.undo(), 0);
    }

    private static void undoTakesAllBack() {
        MountainFarms x = new MountainFarms();
        x.farm(1, 3, 2);
        x.pigs(true);
        x.image();
        x.set(0, 0, 1);
        x.set(0, 1, 1);
        x.wall(0, 1, true);
        x.sow(0, 4);
        x.farm(0, 9, 0);
        x.sees(1);
        x.tenths(1, 0, 0, 0, 0);
        Due.makeItPulse(x);
        x.volume(50);
        x.months(13);
        x.vent(9);
        due.is("undo: farms", x.undo(), 1);
        for (int what = 0; what < 8; what++) {
            due.is("undo: now(" + what + ")", x.now(what), new MountainFarms().now(what));
        }
        for (int cell = 0; cell < 36; cell++) {
            for (int what = 0; what < 2; what++) {
                due.is("undo: cellOf(" + cell + ", " + what + ")", x.cellOf(cell, what),
                    new MountainFarms().cellOf(cell, what));
            }
            due.is("undo: farm on " + cell, x.cellOf(cell, 2), cell == 3 ? 0 : -1);
        }
        int[] farm = {1, 3, 2, 0, 0, 10};
        for (int what = 0; what < 6; what++) {
            due.is("undo: of(0, " + what + ")", x.of(0, what), farm[what]);
        }
        due.is("undo: one farm", x.of(1, 0), Due.BEYOND);
        due.is("undo: walls", x.count(2), 0);
        due.is("undo: diary", x.count(4), 0);
        due.is("undo: z", x.count(5), 1);
        due.is("undo: chance", x.tenth(0, 0, 0), 7);
        due.is("undo: sign", x.tenth(1, 0, 0), 7);
        due.is("undo: pigs are told", x.pigs(true), 0);
    }

    private static void undoLeavesTheRest() {
        MountainFarms x = new MountainFarms();
        Due.feed(x, "ab");
        x.image();
        Due.feed(x, "cde");
        x.sheet(0, 8, 3);
        x.write(0, 1, 9);
        x.vent(-1);
        x.undo();
        due.is("undo: the tape stays", x.count(3), 5);
        due.is("undo: sheets stay", x.write(0, 1, 0), 9);
        due.is("undo: findings stay", x.status(0), 1);
    }

    private static void keptLatest() {
        MountainFarms x = new MountainFarms();
        x.vent(1);
        x.image();
        x.vent(2);
        x.image();
        x.vent(3);
        x.undo();
        due.is("undo: the latest", x.now(2), 2);
        x.vent(4);
        x.undo();
        due.is("undo: it stays kept", x.now(2), 2);
        x.sees(1);
        x.sees(2);
        x.image();
        x.burn();
        x.sees(3);
        x.undo();
        due.is("undo: diary", x.count(4), 2);
        x.burn();
        x.sees(1);
        x.sees(2);
        long weight = x.weight(2);
        x.undo();
        due.is("undo: diary in its order", x.weight(2), weight);
    }

    /** What changes behind an undo must not come to what is kept. */
    private static void keptStays() {
        MountainFarms x = new MountainFarms();
        x.farm(0, 14, 0);
        x.image();
        x.undo();
        x.set(0, 0, 77);
        x.wall(0, 1, true);
        x.sow(0, 3);
        x.tenths(0, 0, 1, 1, 1);
        Due.makeItComeOut(x);
        x.months(12);
        x.undo();
        due.is("kept: height", x.cellOf(0, 0), 30);
        due.is("kept: walls", x.count(2), 0);
        due.is("kept: kind", x.of(0, 0), 0);
        due.is("kept: burnt", x.of(0, 4), 0);
        due.is("kept: chance", x.tenth(0, 0, 0), 7);
        due.is("kept: month", x.now(0), 0);
    }

    private static void tear() {
        MountainFarms x = new MountainFarms();
        x.image();
        x.vent(2);
        due.is("tear: something was kept", x.tear(), 1);
        due.is("tear: again", x.tear(), 0);
        due.is("tear: undo", x.undo(), Due.NONE);
        due.is("tear: what is stays", x.now(2), 2);
        x.image();
        due.is("tear: keeps anew", x.undo(), 0);
    }

    /** A farm that comes where one was taken back has nothing of that one. */
    private static void newFarmBehindUndo() {
        MountainFarms x = new MountainFarms();
        x.image();
        x.farm(5, 14, 5);
        x.farm(5, 0, 5);
        x.months(12);
        due.is("undo: burnt", x.of(0, 4), 1);
        due.is("undo: earned", x.of(1, 3), 20);
        x.undo();
        due.is("undo: the cell is free", x.farm(1, 14, 2), 0);
        due.is("undo: the other one, too", x.farm(1, 0, 2), 1);
        due.is("undo: not burnt", x.of(0, 4), 0);
        due.is("undo: no coins", x.of(1, 3), 0);
        due.is("undo: none burnt", x.count(1), 0);
    }

    private static void count() {
        MountainFarms x = new MountainFarms();
        x.farm(0, 14, 0);
        x.farm(0, 8, 0);
        x.farm(0, 0, 0);
        Due.makeItComeOut(x);
        x.months(1);
        x.wall(3, 4, true);
        x.feed(0, 3);
        x.sees(0);
        x.seed(-5);
        int[] dues = {3, 2, 1, 3, 1, -5};
        for (int what = 0; what < 6; what++) {
            due.is("count(" + what + ")", x.count(what), dues[what]);
        }
        due.is("count(-1)", x.count(-1), Due.BEYOND);
        due.is("count(6)", x.count(6), Due.BEYOND);
        x.seed(Due.NONE);
        due.is("count: z may be any number", x.count(5), Due.NONE);
        due.is("count: that is no finding", x.status(3), 0);
    }

    private static void status() {
        MountainFarms x = new MountainFarms();
        x.vent(-1);
        x.flow(-1, 0);
        for (int i = 0; i < 7; i++) {
            x.sees(0);
        }
        x.farm(1, 0, 0);
        x.as(0, 2);
        x.doPigs();
        x.build(0);
        x.farm(1, 0, 0);
        x.book(0);
        x.sheet(0, 8, -1);
        int[] dues = {2, 1, 1, 1, 2, 1, 1};
        for (int which = 0; which < 7; which++) {
            due.is("status(" + which + ")", x.status(which), dues[which]);
        }
        due.is("status(-1)", x.status(-1), 9);
        due.is("status(7)", x.status(7), Due.BEYOND);
        due.is("status(-2)", x.status(-2), Due.BEYOND);
        due.is("status: they count", x.status(0), 4);
        due.is("status: they count", x.status(-1), 11);
        x.weight(9);
        due.is("status: longs count", x.status(0), 5);
    }

    private static void findingsChangeNothing() {
        MountainFarms x = new MountainFarms();
        x.image();
        x.farm(9, 0, 0);
        x.tenths(0, 0, 5, 6, 0);
        x.tenths(0, 0, 1, 2, 8);
        x.undo();
        due.is("findings: tenths", x.tenth(0, 0, 0), 7);
        due.is("findings: undo takes none back", x.status(0), 3);
        x.sheet(0, 16, 3);
        x.write(0, 0, 8);
        x.sheet(0, 8, -4);
        x.sheet(0, 8, 41);
        due.is("findings: sheet", x.write(0, 0, 300), 8);
        due.is("findings: sheet", x.write(0, 0, 0), 300);
    }
}
