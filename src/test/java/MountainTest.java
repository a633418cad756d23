/** Promises 14 to 21: tenths, the diary and what it says. */
public final class MountainTest {
    private static final Due due = new Due("MountainTest");

    public static void main(String[] args) {
        tenths();
        wrongTenths();
        tenth();
        sees();
        weight();
        likeliest();
        flee();
        noneHasWeight();
        dread();
        dreadIsCut();
        due.end();
    }

    private static void tenths() {
        MountainFarms x = new MountainFarms();
        due.is("tenths: was", x.tenths(0, 1, 1, 2, 3), 0);
        int[] now = {1, 2, 3, 4};
        for (int i = 0; i < 4; i++) {
            due.is("tenths: chance " + i, x.tenth(0, 1, i), now[i]);
        }
        due.is("tenths: signs stay", x.tenth(1, 1, 1), 7);
        due.is("tenths: was", x.tenths(0, 1, 10, 0, 0), 1);
        due.is("tenths: nothing left", x.tenth(0, 1, 3), 0);
        due.is("tenths: sign was", x.tenths(1, 3, 0, 0, 0), 1);
        due.is("tenths: all is left", x.tenth(1, 3, 3), 10);
        due.is("tenths: chances stay", x.tenth(0, 3, 0), 3);
        due.is("tenths: sign was", x.tenths(1, 3, 0, 0, 10), 0);
        due.is("tenths: sign is", x.tenth(1, 3, 2), 10);
    }

    private static void wrongTenths() {
        MountainFarms x = new MountainFarms();
        int big = Integer.MAX_VALUE;
        int[][] wrong = {{-1, 0, 1, 1, 1}, {2, 0, 1, 1, 1}, {0, -1, 1, 1, 1}, {0, 4, 1, 1, 1}, {0, 0, -1, 1, 1},
            {0, 0, 1, -1, 1}, {0, 0, 1, 1, -1}, {0, 0, 11, 0, 0}, {0, 0, 0, 11, 0}, {0, 0, 0, 0, 11},
            {0, 0, 4, 4, 3}, {1, 0, 10, 1, 0}, {1, 0, 10, 0, 1}, {0, 0, big, big, 2}, {0, 0, 11, -1, 0},
            {0, 0, -big, big, 5}, {0, 0, 5, big, 6}, {0, 0, 0, Integer.MIN_VALUE, Integer.MIN_VALUE}};
        for (int[] w : wrong) {
            due.is("tenths: wrong " + w[2] + " " + w[3] + " " + w[4], x.tenths(w[0], w[1], w[2], w[3], w[4]), Due.BEYOND);
        }
        due.is("tenths: nothing changed", x.tenth(0, 0, 0), 7);
        due.is("tenths: nothing changed", x.tenth(0, 0, 1), 3);
        due.is("tenths: nothing changed", x.tenth(1, 0, 0), 7);
        due.is("tenths: findings", x.status(0), wrong.length);
    }

    private static void tenth() {
        MountainFarms x = new MountainFarms();
        due.is("tenth: chance", x.tenth(0, 3, 3), 7);
        due.is("tenth: sign", x.tenth(1, 2, 2), 7);
        int[][] wrong = {{-1, 0, 0}, {2, 0, 0}, {0, -1, 0}, {0, 4, 0}, {0, 0, -1}, {0, 0, 4}, {0, 3, 4}, {1, 4, -1}};
        for (int[] w : wrong) {
            due.is("tenth: wrong " + w[0] + " " + w[1] + " " + w[2], x.tenth(w[0], w[1], w[2]), Due.BEYOND);
        }
    }

    private static void sees() {
        MountainFarms x = new MountainFarms();
        for (int i = 0; i < 6; i++) {
            due.is("sees: " + i, x.sees(i % 4), i + 1);
        }
        due.is("sees: FULL", x.sees(0), Due.FULL);
        due.is("sees: BEYOND ahead of FULL", x.sees(4), Due.BEYOND);
        due.is("sees: six of them", x.count(4), 6);
        due.is("burn: six", x.burn(), 6);
        due.is("burn: none", x.burn(), 0);
        due.is("burn: count", x.count(4), 0);
        due.is("burn: weights as at first", x.weight(0), 10);
        due.is("sees(-1)", x.sees(-1), Due.BEYOND);
        due.is("sees(4)", x.sees(4), Due.BEYOND);
        due.is("sees: from empty", x.sees(3), 1);
    }

    private static void weight() {
        MountainFarms x = new MountainFarms();
        long[] first = {10, 0, 0, 0};
        isWeight(x, "empty diary", first);
        x.sees(0);
        isWeight(x, "0", new long[] {490, 30, 0, 0});
        x.sees(1);
        isWeight(x, "0 1", new long[] {3430, 7 * 1680, 90, 0});
        x.sees(3);
        isWeight(x, "0 1 3", new long[] {24010, 10290 + 82320, 35280 + 630, 7 * 270});
        due.is("weight(-2)", x.weight(-2), Due.BEYOND);
        due.is("weight(4)", x.weight(4), Due.BEYOND);
        x.burn();
        x.tenths(0, 0, 10, 0, 0);
        x.tenths(1, 0, 0, 0, 10);
        for (int i = 0; i < 6; i++) {
            x.sees(2);
        }
        isWeight(x, "the greatest", new long[] {10000000000000L, 0, 0, 0});
    }

    private static void isWeight(MountainFarms x, String diary, long[] want) {
        long all = 0;
        for (int state = 0; state < 4; state++) {
            due.is("weight: " + diary + ", state " + state, x.weight(state), want[state]);
            all += want[state];
        }
        due.is("weight: " + diary + ", all", x.weight(-1), all);
    }

    private static void likeliest() {
        MountainFarms x = new MountainFarms();
        due.is("likeliest: empty diary", x.likeliest(), 0);
        x.sees(0);
        x.sees(1);
        due.is("likeliest: 1", x.likeliest(), 1);
        x.burn();
        x.tenths(0, 0, 0, 5, 5);
        x.tenths(1, 1, 5, 5, 0);
        x.tenths(1, 2, 5, 5, 0);
        x.sees(0);
        due.is("likeliest: of two the least", x.likeliest(), 1);
        x.tenths(1, 2, 6, 4, 0);
        due.is("likeliest: 2", x.likeliest(), 2);
    }

    private static void flee() {
        MountainFarms x = new MountainFarms();
        due.is("flee(0): nothing to fear", x.flee(0), 1);
        due.is("flee(1): nothing to fear", x.flee(1), 0);
        due.is("flee(-1)", x.flee(-1), Due.BEYOND);
        due.is("flee(11)", x.flee(11), Due.BEYOND);
        x.tenths(0, 0, 5, 2, 1);
        for (int state = 0; state < 4; state++) {
            x.tenths(1, state, 10, 0, 0);
        }
        x.sees(0);
        due.is("flee(3): just that", x.flee(3), 1);
        due.is("flee(4)", x.flee(4), 0);
        due.is("flee(10)", x.flee(10), 0);
        x.tenths(0, 0, 0, 0, 5);
        due.is("flee(10): for sure", x.flee(10), 1);
    }

    private static void noneHasWeight() {
        MountainFarms x = new MountainFarms();
        x.tenths(0, 0, 10, 0, 0);
        x.tenths(1, 0, 0, 10, 0);
        x.sees(0);
        due.is("none: weight", x.weight(-1), 0);
        due.is("none: likeliest", x.likeliest(), Due.NONE);
        due.is("none: flee", x.flee(0), Due.NONE);
        due.is("none: flee, BEYOND first", x.flee(11), Due.BEYOND);
        due.is("none: dread", x.dread(), Due.NONE);
        due.is("none: told", x.status(3), 3);
    }

    private static void dread() {
        MountainFarms x = new MountainFarms();
        due.is("dread: all alike", x.dread(), 0);
        x.sees(0);
        x.sees(0);
        due.is("dread: goats", x.dread(), 3);
        due.is("dread: the diary stays", x.count(4), 2);
        x.burn();
        Due.makeItComeOut(x);
        due.is("dread: sure for each sign", x.dread(), 0);
        x.tenths(1, 3, 0, 0, 5);
        due.is("dread: some can't be seen", x.dread(), 2);
        for (int i = 0; i < 6; i++) {
            x.sees(2);
        }
        due.is("dread: the diary is full", x.dread(), Due.NONE);
        due.is("dread: weight stays", x.weight(3) > 0 ? 1 : 0, 1);
    }

    private static void dreadIsCut() {
        MountainFarms x = new MountainFarms();
        x.tenths(1, 3, 5, 2, 2);
        x.sees(0);
        x.sees(0);
        // 1000 times by all: sign 0: 1.06, sign 1: 0.7, sign 2: 1.84, sign 3: 1.04; cut, 0 is among the greatest.
        due.is("dread: cut", x.dread(), 0);
        x.tenths(1, 3, 3, 2, 2);
        due.is("dread: cut", x.dread(), 3);
        // Just by thousandths: 999 or 1001 times would make other signs greatest.
        x.tenths(1, 3, 6, 2, 1);
        x.tenths(1, 0, 6, 1, 0);
        due.is("dread: cut by thousandths", x.dread(), 2);
        x.burn();
        x.sees(1);
        x.sees(1);
        x.tenths(1, 3, 2, 2, 6);
        x.tenths(1, 0, 10, 0, 0);
        due.is("dread: cut by thousandths", x.dread(), 0);
    }
}
