/** Promises 6 to 13: farms, their kinds and what they bear. */
public final class FarmsTest {
    private static final Due due = new Due("FarmsTest");

    public static void main(String[] args) {
        farm();
        farmIsFull();
        of();
        bearsByAge();
        bearsByAsh();
        sow();
        as();
        build();
        coins();
        best();
        harvest();
        harvestWithAsh();
        due.end();
    }

    private static void farm() {
        MountainFarms x = new MountainFarms();
        due.is("farm: first", x.farm(0, 0, 0), 0);
        due.is("farm: second", x.farm(5, 35, 5), 1);
        int[][] wrong = {{-1, 1, 0}, {6, 1, 0}, {0, -1, 0}, {0, 36, 0}, {0, 1, -1}, {0, 1, 6}, {6, 0, 0}, {0, 0, 6}};
        for (int[] w : wrong) {
            due.is("farm: wrong " + w[0] + " " + w[1] + " " + w[2], x.farm(w[0], w[1], w[2]), Due.BEYOND);
        }
        due.is("farm: there is one", x.farm(3, 35, 2), Due.STATE);
        due.is("farm: count", x.count(0), 2);
        due.is("farm: BEYOND", x.status(0), wrong.length);
        due.is("farm: STATE", x.status(4), 1);
        due.is("farm: the one there stays", x.of(1, 0), 5);
    }

    private static void farmIsFull() {
        MountainFarms x = new MountainFarms();
        for (int i = 0; i < 12; i++) {
            due.is("farm: " + i, x.farm(0, 2 * i, 1), i);
        }
        due.is("farm: FULL", x.farm(0, 1, 1), Due.FULL);
        due.is("farm: STATE ahead of FULL", x.farm(0, 22, 1), Due.STATE);
        due.is("farm: BEYOND ahead of FULL", x.farm(0, 1, 6), Due.BEYOND);
        due.is("farm: 12 of them", x.count(0), 12);
        due.is("farm: FULL was told", x.status(1), 1);
    }

    private static void of() {
        MountainFarms x = new MountainFarms();
        x.farm(2, 3, 4);
        due.is("of: kind", x.of(0, 0), 2);
        due.is("of: cell", x.of(0, 1), 3);
        due.is("of: owner", x.of(0, 2), 4);
        due.is("of: coins", x.of(0, 3), 0);
        due.is("of: not burnt", x.of(0, 4), 0);
        due.is("of: bears", x.of(0, 5), 20);
        due.is("of(-1, 0)", x.of(-1, 0), Due.BEYOND);
        due.is("of(1, 0)", x.of(1, 0), Due.BEYOND);
        due.is("of(12, 0)", x.of(12, 0), Due.BEYOND);
        due.is("of(0, -1)", x.of(0, -1), Due.BEYOND);
        due.is("of(0, 6)", x.of(0, 6), Due.BEYOND);
        x.set(14, 0, 1);
        x.vent(3);
        Due.makeItComeOut(x);
        x.months(1);
        due.is("of: burnt", x.of(0, 4), 1);
        due.is("of: burnt ones bear nothing", x.of(0, 5), 0);
        x.sow(0, 4);
        due.is("of: burnt goats neither", x.of(0, 5), 0);
    }

    private static void bearsByAge() {
        MountainFarms x = new MountainFarms();
        x.farm(0, 0, 0);
        int[][] dues = {
            {0, 0, 0, 0, 3, 6, 0}, {1, 0, 0, 0, 3, 6, 0}, {4, 0, 0, 2, 3, 6, 2}, {5, 10, 10, 12, 13, 6, 12},
            {20, 10, 10, 20, 13, 6, 20}, {49, 10, 10, 34, 13, 6, 34}, {50, 10, 10, 35, 13, 6, 45},
            {51, 10, 10, 35, 13, 6, 45}, {52, 10, 10, 35, 13, 6, 45}, {99, 10, 10, 35, 13, 6, 45}};
        for (int[] d : dues) {
            x.set(0, 1, d[0]);
            for (int kind = 0; kind < 6; kind++) {
                x.sow(0, kind);
                due.is("bears: kind " + kind + " at age " + d[0], x.of(0, 5), d[1 + kind]);
            }
        }
    }

    private static void bearsByAsh() {
        MountainFarms x = new MountainFarms();
        x.farm(1, 0, 0);
        x.farm(3, 5, 0);
        Due.makeItComeOut(x);
        x.volume(1);
        x.months(1);
        for (int ash = 0; ash <= 12; ash++) {
            int more = ash < 10 ? 20 - 2 * ash : 0;
            due.is("ash: " + ash, x.now(3), ash);
            due.is("bears: wheat at ash " + ash, x.of(0, 5), 10 + more);
            due.is("bears: rye at ash " + ash, x.of(1, 5), 13 + more);
            x.set(0, 1, 0);
            due.is("bears: wheat on new ground at ash " + ash, x.of(0, 5), more);
            x.set(0, 1, 20);
            x.months(ash == 0 ? 11 : 12);
        }
    }

    private static void sow() {
        MountainFarms x = new MountainFarms();
        x.farm(1, 8, 1);
        due.is("sow: was", x.sow(0, 5), 1);
        due.is("sow: was", x.sow(0, 0), 5);
        due.is("sow: is", x.of(0, 0), 0);
        due.is("sow(1, 0)", x.sow(1, 0), Due.BEYOND);
        due.is("sow(-1, 0)", x.sow(-1, 0), Due.BEYOND);
        due.is("sow(0, 6)", x.sow(0, 6), Due.BEYOND);
        due.is("sow(0, -1)", x.sow(0, -1), Due.BEYOND);
        due.is("sow: stays", x.of(0, 0), 0);
    }

    private static void as() {
        boolean[][] isOne = {
            {true, false, false, false, false, false},
            {true, true, false, false, false, false},
            {true, false, true, false, false, false},
            {true, true, false, true, false, false},
            {true, false, false, false, true, false},
            {true, false, true, false, false, true}};
        MountainFarms x = new MountainFarms();
        x.farm(0, 23, 1);
        int others = 0;
        for (int kind = 0; kind < 6; kind++) {
            x.sow(0, kind);
            for (int as = 0; as < 6; as++) {
                due.is("as: " + kind + " as " + as, x.as(0, as), isOne[kind][as] ? 23 : Due.KIND);
                others += isOne[kind][as] ? 0 : 1;
            }
        }
        due.is("as: KIND", x.status(2), others);
        due.is("as(0, 6)", x.as(0, 6), Due.BEYOND);
        due.is("as(0, -1)", x.as(0, -1), Due.BEYOND);
        due.is("as(1, 0)", x.as(1, 0), Due.BEYOND);
        due.is("as(-1, 0)", x.as(-1, 0), Due.BEYOND);
    }

    private static void build() {
        MountainFarms x = new MountainFarms();
        x.farm(0, 14, 3);
        x.farm(0, 8, 3);
        due.is("build: it isn't burnt", x.build(0), Due.STATE);
        due.is("build(2)", x.build(2), Due.BEYOND);
        due.is("build(-1)", x.build(-1), Due.BEYOND);
        Due.makeItRest(x);
        x.months(12);
        due.is("build: coins ahead", x.of(0, 3), 10);
        Due.makeItComeOut(x);
        x.months(1);
        due.is("build: both are burnt", x.count(1), 2);
        due.is("build: coins stay when it burns", x.of(0, 3), 10);
        due.is("build: below 0", x.build(0), -10);
        due.is("build: it stands", x.of(0, 4), 0);
        due.is("build: the other one doesn't", x.of(1, 4), 1);
        due.is("build: coins", x.of(0, 3), -10);
        due.is("build: again", x.build(0), Due.STATE);
        due.is("build: findings", x.status(4), 2);
    }

    private static void coins() {
        MountainFarms x = new MountainFarms();
        x.farm(0, 0, 0);
        x.farm(4, 1, 5);
        x.farm(3, 2, 5);
        Due.makeItRest(x);
        x.months(24);
        due.is("coins(0)", x.coins(0), 20);
        due.is("coins(5)", x.coins(5), 12 + 26);
        due.is("coins(1)", x.coins(1), 0);
        due.is("coins(-1)", x.coins(-1), Due.BEYOND);
        due.is("coins(6)", x.coins(6), Due.BEYOND);
    }

    private static void best() {
        MountainFarms x = new MountainFarms();
        x.farm(0, 30, 0);
        int[][] dues = {{0, 4}, {4, 4}, {5, 3}, {6, 2}, {7, 2}, {8, 2}, {20, 2}, {49, 2}, {50, 5}, {99, 5}};
        for (int[] d : dues) {
            x.set(30, 1, d[0]);
            due.is("best: at age " + d[0], x.best(0), d[1]);
        }
        due.is("best(1)", x.best(1), Due.BEYOND);
        due.is("best(-1)", x.best(-1), Due.BEYOND);
        x.vent(30);
        Due.makeItComeOut(x);
        x.months(1);
        due.is("best: burnt, on ash", x.best(0), 3);
        x.set(30, 1, 99);
        due.is("best: burnt, ash and old ground", x.best(0), 5);
    }

    private static void harvest() {
        MountainFarms x = new MountainFarms();
        due.is("harvest: no year", x.harvest(0, 0, 0), 0);
        due.is("harvest: one year", x.harvest(0, 0, 1), 10);
        due.is("harvest: goats", x.harvest(4, 0, 50), 300);
        x.set(7, 1, 3);
        due.is("harvest: growing ground", x.harvest(0, 7, 4), 20);
        due.is("harvest: vines", x.harvest(2, 7, 4), 1 + 2 + 12 + 13);
        x.set(7, 1, 48);
        due.is("harvest: old vines", x.harvest(5, 7, 4), 34 + 34 + 45 + 45);
        x.set(7, 1, 99);
        due.is("harvest: age ends at 99", x.harvest(5, 7, 50), 45 * 50);
        due.is("harvest: no ash", x.harvest(3, 7, 50), 13 * 50);
        int[][] wrong = {{-1, 0, 1}, {6, 0, 1}, {0, -1, 1}, {0, 36, 1}, {0, 0, -1}, {0, 0, 51}};
        for (int[] w : wrong) {
            due.is("harvest: wrong " + w[0] + " " + w[1] + " " + w[2], x.harvest(w[0], w[1], w[2]), Due.BEYOND);
        }
        due.is("harvest: ages stay", x.cellOf(7, 1), 99);
    }

    private static void harvestWithAsh() {
        MountainFarms x = new MountainFarms();
        x.farm(1, 14, 0);
        Due.makeItComeOut(x);
        x.volume(1);
        x.months(1);
        due.is("harvest: wheat on ash", x.harvest(1, 0, 3), 30 + 28 + 26);
        due.is("harvest: wheat till there is no ash", x.harvest(1, 0, 12), 120 + 110);
        due.is("harvest: rye on new ground", x.harvest(3, 14, 6), 6 * 3 + 20 + 18 + 16 + 14 + 12 + 10 + 10);
    }
}
