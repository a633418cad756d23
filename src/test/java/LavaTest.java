/** Promises 22 to 26: where lava flows and what walls do to it. */
public final class LavaTest {
    private static final Due due = new Due("LavaTest");
    /** Lava of volume 12 from the vent of a new slope. */
    private static final int[] FIRST_WAY = {14, 8, 2, 3, 4, 5, 5, 5, 11, 11, 5, 4};

    public static void main(String[] args) {
        flow();
        flowByWays();
        flowPilesUp();
        flowStaysOnTheSlope();
        hit();
        least();
        leastUpTo99();
        turnsOn();
        save();
        saveOfSeveral();
        saveOneOfMore();
        due.end();
    }

    private static void flow() {
        MountainFarms x = new MountainFarms();
        long came = 0;
        for (int volume = 1; volume <= 12; volume++) {
            came |= 1L << FIRST_WAY[volume - 1];
            due.is("flow: volume " + volume, x.flow(14, volume), came);
        }
        due.is("flow: heights stay", x.cellOf(5, 0), 25);
        due.is("flow: ages stay", x.cellOf(14, 1), 20);
        due.is("flow: from the lowest", x.flow(35, 1), Due.setOf(35));
        due.is("flow(-1, 1)", x.flow(-1, 1), Due.BEYOND);
        due.is("flow(36, 1)", x.flow(36, 1), Due.BEYOND);
        due.is("flow(0, 0)", x.flow(0, 0), Due.BEYOND);
        due.is("flow(0, 100)", x.flow(0, 100), Due.BEYOND);
        due.is("flow: findings", x.status(0), 4);
    }

    private static void flowByWays() {
        MountainFarms x = new MountainFarms();
        int[] next = {8, 15, 20, 13};
        for (int way = 0; way < 4; way++) {
            due.is("flow: of several the least way " + way, x.flow(14, 2), Due.setOf(14, next[way]));
            x.wall(14, next[way], true);
        }
        due.is("flow: walls all around", x.flow(14, 99), Due.setOf(14));
        for (int way = 0; way < 4; way++) {
            x.wall(14, next[way], false);
        }
        x.set(13, 0, 44);
        due.is("flow: the least height", x.flow(14, 2), Due.setOf(14, 13));
        x.set(20, 0, 43);
        due.is("flow: the least height", x.flow(14, 2), Due.setOf(14, 20));
        x.wall(20, 14, true);
        due.is("flow: not over a wall", x.flow(14, 2), Due.setOf(14, 13));
    }

    private static void flowPilesUp() {
        MountainFarms x = new MountainFarms();
        for (int cell = 0; cell < 36; cell++) {
            x.set(cell, 0, 99);
        }
        due.is("flow: 99 at most", x.flow(0, 99), Due.setOf(0));
        x.set(0, 0, 96);
        x.set(1, 0, 98);
        due.is("flow: piles up", x.flow(0, 2), Due.setOf(0));
        due.is("flow: then goes on", x.flow(0, 3), Due.setOf(0, 1));
        x.set(1, 0, 99);
        due.is("flow: never above 99", x.flow(0, 99), Due.setOf(0));
        x.set(0, 0, 5);
        x.set(1, 0, 5);
        due.is("flow: not to the same height", x.flow(0, 1), Due.setOf(0));
        due.is("flow: not to the same height", x.flow(0, 2), Due.setOf(0));
        due.is("flow: over the side", x.flow(0, 3), Due.setOf(0, 1));
    }

    /** From each cell lava goes just to the cells beside, also at the slope's edges. */
    private static void flowStaysOnTheSlope() {
        MountainFarms x = new MountainFarms();
        for (int cell = 0; cell < 36; cell++) {
            x.set(cell, 0, 50);
        }
        for (int low = 0; low < 36; low++) {
            x.set(low, 0, 0);
            for (int from : new int[] {low - 6, low - 1, low + 1, low + 6, 0, 5, 30, 35}) {
                boolean beside = from >= 0 && from < 36
                    && Math.abs(from / 6 - low / 6) + Math.abs(from % 6 - low % 6) == 1;
                if (from >= 0 && from < 36) {
                    due.is("flow: from " + from + " to " + low, x.flow(from, 2),
                        beside ? Due.setOf(from, low) : Due.setOf(from));
                }
            }
            x.set(low, 0, 50);
        }
    }

    private static void hit() {
        MountainFarms x = new MountainFarms();
        x.farm(0, 2, 0);
        x.farm(0, 15, 0);
        x.farm(0, 14, 0);
        x.farm(0, 11, 0);
        due.is("hit(1)", x.hit(1), Due.setOf(2));
        due.is("hit(2)", x.hit(2), Due.setOf(2));
        due.is("hit(3)", x.hit(3), Due.setOf(0, 2));
        due.is("hit(8)", x.hit(8), Due.setOf(0, 2));
        due.is("hit(9)", x.hit(9), Due.setOf(0, 2, 3));
        due.is("hit(0)", x.hit(0), Due.BEYOND);
        due.is("hit(100)", x.hit(100), Due.BEYOND);
        due.is("hit: heights stay", x.cellOf(5, 0), 25);
        Due.makeItComeOut(x);
        x.volume(2);
        x.months(1);
        due.is("hit: not the burnt ones", x.hit(9), Due.setOf(0, 3));
        x.build(2);
        due.is("hit: built anew", x.hit(9), Due.setOf(0, 2, 3));
    }

    private static void least() {
        MountainFarms x = new MountainFarms();
        x.farm(0, 14, 0);
        x.farm(0, 8, 0);
        x.farm(0, 5, 0);
        x.farm(0, 11, 0);
        x.farm(0, 34, 0);
        int[] dues = {1, 2, 6, 9};
        for (int farm = 0; farm < dues.length; farm++) {
            due.is("least(" + farm + ")", x.least(farm), dues[farm]);
        }
        for (int cell = 28; cell < 36; cell++) {
            x.set(cell, 0, 99);
        }
        due.is("least: none", x.least(4), Due.NONE);
        due.is("least(5)", x.least(5), Due.BEYOND);
        due.is("least(-1)", x.least(-1), Due.BEYOND);
        due.is("least: heights stay", x.cellOf(5, 0), 25);
        Due.makeItComeOut(x);
        x.volume(1);
        x.months(1);
        due.is("least: burnt", x.least(0), Due.STATE);
        due.is("least: not burnt", x.least(1), 2);
    }

    private static void leastUpTo99() {
        corridor(16, 99);
        corridor(15, Due.NONE);
    }

    /**
     * Lava goes along the first row from the vent at its end: it fills cell 0 (to 99 in 33 steps), goes over cell 1
     * into cell 2, fills that (33 steps), goes over cell 3 (volume 70) into cell 4, and fills it up to above 96.
     */
    private static void corridor(int fourth, int want) {
        MountainFarms x = new MountainFarms();
        int[] heights = {0, 98, 0, 97, fourth, 96};
        for (int cell = 0; cell < 6; cell++) {
            x.wall(cell, cell + 6, true);
            x.set(cell, 0, heights[cell]);
            x.farm(0, cell, 0);
        }
        x.vent(0);
        int[] dues = {1, 35, 36, 70, 71, want};
        for (int farm = 0; farm < 6; farm++) {
            due.is("least: in a corridor, " + farm, x.least(farm), dues[farm]);
        }
        due.is("least: as hit(99) has it", x.hit(99), want == 99 ? 63 : 31);
        due.is("least: as hit(98) has it", x.hit(98), 31);
    }

    private static void turnsOn() {
        MountainFarms x = new MountainFarms();
        x.farm(0, 8, 0);
        x.farm(0, 15, 0);
        x.farm(0, 2, 0);
        x.farm(0, 9, 0);
        x.farm(0, 3, 0);
        due.is("turnsOn: from 8 to 15", x.turnsOn(14, 8, 2), Due.setOf(1));
        due.is("turnsOn: from the other cell", x.turnsOn(8, 14, 2), Due.setOf(1));
        due.is("turnsOn: from 2 to 9", x.turnsOn(8, 2, 4), Due.setOf(3));
        due.is("turnsOn: too little lava", x.turnsOn(8, 2, 2), 0);
        due.is("turnsOn: those hit anyway aren't turned on", x.turnsOn(8, 2, 5), Due.setOf(3));
        due.is("turnsOn: nothing", x.turnsOn(34, 35, 99), 0);
        due.is("turnsOn: no wall came", x.count(2), 0);
        due.is("turnsOn: BEYOND", x.turnsOn(14, 9, 5), Due.BEYOND);
        due.is("turnsOn: BEYOND", x.turnsOn(5, 6, 5), Due.BEYOND);
        due.is("turnsOn: BEYOND", x.turnsOn(-1, 0, 5), Due.BEYOND);
        due.is("turnsOn: BEYOND", x.turnsOn(36, 35, 5), Due.BEYOND);
        due.is("turnsOn: BEYOND", x.turnsOn(14, 8, 0), Due.BEYOND);
        due.is("turnsOn: BEYOND", x.turnsOn(14, 8, 100), Due.BEYOND);
        x.wall(8, 2, true);
        due.is("turnsOn: there is one", x.turnsOn(2, 8, 5), Due.STATE);
        due.is("turnsOn: BEYOND first", x.turnsOn(2, 8, 100), Due.BEYOND);
        due.is("turnsOn: the next wall", x.turnsOn(8, 9, 3), 0);
    }

    private static void save() {
        MountainFarms x = new MountainFarms();
        due.is("save: no farm", x.save(12), Due.NONE);
        x.farm(0, 8, 0);
        due.is("save: one wall", x.save(12), 814);
        due.is("save(2)", x.save(2), 814);
        due.is("save(1): nothing to save", x.save(1), Due.NONE);
        due.is("save(0)", x.save(0), Due.BEYOND);
        due.is("save(100)", x.save(100), Due.BEYOND);
        due.is("save: no wall came", x.count(2), 0);
        x.farm(0, 15, 0);
        due.is("save: as many another way", x.save(12), Due.NONE);
        x.wall(14, 15, true);
        due.is("save: a wall more", x.save(12), 814);
        x.wall(14, 8, true);
        due.is("save: saved", x.save(12), Due.NONE);
        MountainFarms y = new MountainFarms();
        y.farm(0, 14, 0);
        due.is("save: not at the vent", y.save(99), Due.NONE);
        saveAtTheCorners();
    }

    private static void saveAtTheCorners() {
        int[][] corners = {{1, 0, 1}, {6, 0, 6}, {0, 1, 1}, {0, 6, 6}, {34, 35, 3435}, {29, 35, 2935}};
        for (int[] c : corners) {
            MountainFarms x = new MountainFarms();
            x.vent(c[0]);
            x.set(c[0], 0, 60);
            x.set(c[1], 0, 1);
            x.farm(0, c[1], 0);
            due.is("save: from " + c[0] + " to " + c[1], x.save(2), c[2]);
            due.is("save: turned away", x.turnsOn(c[1], c[0], 2), 0);
            x.wall(c[0], c[1], true);
            due.is("save: saved", x.hit(2), 0);
        }
    }

    private static void saveOfSeveral() {
        MountainFarms x = new MountainFarms();
        x.farm(0, 2, 0);
        due.is("save: of several the least number", x.save(3), 208);
        MountainFarms y = new MountainFarms();
        y.farm(0, 4, 0);
        // 2|3 and 3|4 both keep lava of 5 from cell 4; with 2|8 it comes there by cell 9.
        due.is("save: of several the least number", y.save(5), 203);
        y.set(3, 0, 40);
        y.set(9, 0, 39);
        y.farm(0, 9, 0);
        due.is("save: the right one or the lower one", y.save(3), 809);
    }

    private static void saveOneOfMore() {
        MountainFarms x = new MountainFarms();
        x.farm(0, 8, 0);
        x.farm(0, 2, 0);
        x.farm(0, 3, 0);
        due.is("save: fewest", x.save(4), 814);
        x.farm(0, 15, 0);
        x.farm(0, 16, 0);
        // Without: 8, 2, 3. With 2|3: 8, 2. With 2|8: 8, 3 (by 9). With 8|14: 15, 3 (by 9).
        due.is("save: of several that leave two the least number", x.save(4), 203);
        x.farm(0, 1, 0);
        // Now 2|3 turns it on to 1: three as well.
        due.is("save: fewer than without", x.save(4), 208);
    }
}
