/** Promises 1 to 5: a new object and its ground. */
public final class SlopeTest {
    private static final Due due = new Due("SlopeTest");

    public static void main(String[] args) {
        newGround();
        newRest();
        set();
        cellOf();
        vent();
        wall();
        wallsAtTheEdges();
        due.end();
    }

    private static void newGround() {
        MountainFarms x = new MountainFarms();
        int[] heights = {
            30, 35, 40, 35, 30, 25,
            35, 40, 45, 40, 35, 30,
            40, 45, 50, 45, 40, 35,
            35, 40, 45, 40, 35, 30,
            30, 35, 40, 35, 30, 25,
            25, 30, 35, 30, 25, 20};
        for (int cell = 0; cell < 36; cell++) {
            due.is("new: height of " + cell, x.cellOf(cell, 0), heights[cell]);
            due.is("new: age of " + cell, x.cellOf(cell, 1), 20);
            due.is("new: farm on " + cell, x.cellOf(cell, 2), -1);
            due.is("new: walls of " + cell, x.cellOf(cell, 3), 0);
        }
    }

    private static void newRest() {
        MountainFarms x = new MountainFarms();
        int[] now = {0, 0, 14, 99, 12, 0, 0, 0};
        for (int what = 0; what < 8; what++) {
            due.is("new: now(" + what + ")", x.now(what), now[what]);
        }
        int[] chances = {7, 3, 0, 0, 0, 7, 3, 0, 0, 0, 7, 3, 3, 0, 0, 7};
        int[] signs = {7, 1, 1, 1, 1, 7, 1, 1, 1, 1, 7, 1, 1, 1, 1, 7};
        for (int state = 0; state < 4; state++) {
            for (int i = 0; i < 4; i++) {
                due.is("new: chance " + state + " " + i, x.tenth(0, state, i), chances[4 * state + i]);
                due.is("new: sign " + state + " " + i, x.tenth(1, state, i), signs[4 * state + i]);
            }
        }
        int[] counts = {0, 0, 0, 0, 0, 1};
        for (int what = 0; what < 6; what++) {
            due.is("new: count(" + what + ")", x.count(what), counts[what]);
        }
        due.is("new: status(-1)", x.status(-1), 0);
        due.is("new: pigs(false)", x.pigs(false), 0);
        due.is("new: wipe()", x.wipe(), 0);
        due.is("new: burn()", x.burn(), 0);
        due.is("new: tear()", x.tear(), 0);
        due.is("new: undo()", x.undo(), Due.NONE);
        for (int s = 0; s < 4; s++) {
            due.is("new: sheet " + s + " is missing", x.write(s, 0, 1), Due.MISSING);
        }
    }

    private static void set() {
        MountainFarms x = new MountainFarms();
        due.is("set: height", x.set(0, 0, 99), 30);
        due.is("set: height was", x.set(0, 0, 0), 99);
        due.is("set: height is", x.cellOf(0, 0), 0);
        due.is("set: age stays", x.cellOf(0, 1), 20);
        due.is("set: age", x.set(35, 1, 99), 20);
        due.is("set: age was", x.set(35, 1, 0), 99);
        due.is("set: height stays", x.cellOf(35, 0), 20);
        int[][] wrong = {{-1, 0, 5}, {36, 0, 5}, {0, -1, 5}, {0, 2, 5}, {0, 0, -1}, {0, 0, 100}, {1, 1, -1},
            {1, 1, 100}, {Integer.MIN_VALUE, 0, 0}, {Integer.MAX_VALUE, 1, 0}};
        for (int[] w : wrong) {
            due.is("set: wrong " + w[0] + " " + w[1] + " " + w[2], x.set(w[0], w[1], w[2]), Due.BEYOND);
        }
        due.is("set: nothing changed", x.cellOf(0, 0), 0);
        due.is("set: nothing changed", x.cellOf(1, 1), 20);
        due.is("set: findings", x.status(0), wrong.length);
        due.is("set: all findings", x.status(-1), wrong.length);
    }

    private static void cellOf() {
        MountainFarms x = new MountainFarms();
        x.farm(4, 7, 2);
        x.farm(4, 9, 2);
        x.wall(9, 3, true);
        x.wall(9, 8, true);
        x.wall(9, 10, true);
        x.set(9, 0, 77);
        x.set(9, 1, 66);
        due.is("cellOf: height", x.cellOf(9, 0), 77);
        due.is("cellOf: age", x.cellOf(9, 1), 66);
        due.is("cellOf: second farm", x.cellOf(9, 2), 1);
        due.is("cellOf: first farm", x.cellOf(7, 2), 0);
        due.is("cellOf: no farm", x.cellOf(8, 2), -1);
        due.is("cellOf: walls", x.cellOf(9, 3), 1 + 2 + 8);
        due.is("cellOf: wall seen from 3", x.cellOf(3, 3), 4);
        due.is("cellOf: wall seen from 8", x.cellOf(8, 3), 2);
        due.is("cellOf: wall seen from 10", x.cellOf(10, 3), 8);
        due.is("cellOf: no wall", x.cellOf(15, 3), 0);
        due.is("cellOf(-1, 0)", x.cellOf(-1, 0), Due.BEYOND);
        due.is("cellOf(36, 3)", x.cellOf(36, 3), Due.BEYOND);
        due.is("cellOf(0, -1)", x.cellOf(0, -1), Due.BEYOND);
        due.is("cellOf(0, 4)", x.cellOf(0, 4), Due.BEYOND);
        due.is("cellOf: findings", x.status(0), 4);
    }

    private static void vent() {
        MountainFarms x = new MountainFarms();
        due.is("vent(35)", x.vent(35), 14);
        due.is("vent: is", x.now(2), 35);
        due.is("vent: heights stay", x.cellOf(35, 0), 20);
        due.is("vent: heights stay", x.cellOf(14, 0), 50);
        due.is("vent(0)", x.vent(0), 35);
        due.is("vent(-1)", x.vent(-1), Due.BEYOND);
        due.is("vent(36)", x.vent(36), Due.BEYOND);
        due.is("vent: stays", x.now(2), 0);
        due.is("vent: lava starts there", x.hit(1), 0);
        x.farm(0, 0, 0);
        due.is("vent: lava starts there", x.hit(1), 1);
    }

    private static void wall() {
        MountainFarms x = new MountainFarms();
        due.is("wall: no wall to take away", x.wall(0, 1, false), 0);
        due.is("wall: new", x.wall(0, 1, true), 1);
        due.is("wall: not new", x.wall(0, 1, true), 0);
        due.is("wall: not new from the other cell", x.wall(1, 0, true), 0);
        due.is("wall: down", x.wall(7, 1, true), 1);
        due.is("wall: count", x.count(2), 2);
        due.is("wall: of 1", x.cellOf(1, 3), 8 + 4);
        due.is("wall: of 0", x.cellOf(0, 3), 2);
        due.is("wall: of 7", x.cellOf(7, 3), 1);
        due.is("wall: away from the other cell", x.wall(1, 0, false), 1);
        due.is("wall: away", x.cellOf(0, 3), 0);
        due.is("wall: the other one stays", x.cellOf(1, 3), 4);
        due.is("wall: away again", x.wall(0, 1, false), 0);
        due.is("wall: count", x.count(2), 1);
    }

    private static void wallsAtTheEdges() {
        MountainFarms x = new MountainFarms();
        int[][] wrong = {{5, 6}, {6, 5}, {11, 12}, {0, 0}, {0, 2}, {0, 7}, {14, 7}, {-1, 0}, {0, -1}, {-1, 5},
            {0, -6}, {-6, 0}, {30, 36}, {36, 30}, {35, 36}, {35, 41}, {Integer.MAX_VALUE, 0},
            {0, Integer.MIN_VALUE}, {Integer.MAX_VALUE, Integer.MIN_VALUE}};
        for (int[] w : wrong) {
            due.is("wall(" + w[0] + ", " + w[1] + ", true)", x.wall(w[0], w[1], true), Due.BEYOND);
            due.is("wall(" + w[0] + ", " + w[1] + ", false)", x.wall(w[0], w[1], false), Due.BEYOND);
        }
        due.is("wall: none came", x.count(2), 0);
        due.is("wall: findings", x.status(0), 2 * wrong.length);
        int walls = 0;
        for (int cell = 0; cell < 36; cell++) {
            if (cell % 6 < 5) {
                due.is("wall: to the right of " + cell, x.wall(cell, cell + 1, true), 1);
                walls++;
            }
            if (cell < 30) {
                due.is("wall: under " + cell, x.wall(cell + 6, cell, true), 1);
                walls++;
            }
        }
        for (int cell = 0; cell < 30; cell++) {
            due.is("wall: away under " + cell, x.wall(cell, cell + 6, false), 1);
            due.is("wall: back under " + cell, x.wall(cell, cell + 6, true), 1);
        }
        due.is("wall: all of them", x.count(2), walls);
        due.is("wall: all of them", x.count(2), 60);
        due.is("wall: corner", x.cellOf(0, 3), 2 + 4);
        due.is("wall: corner", x.cellOf(35, 3), 1 + 8);
        due.is("wall: middle", x.cellOf(14, 3), 15);
    }
}
