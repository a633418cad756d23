/** Promises 27 to 35: months, pigs, and what is to come. */
public final class MonthsTest {
    private static final Due due = new Due("MonthsTest");
    /** The states after each month from the draws of z 1: 4 2 6 3 7 6 0 6 8 9 4 6 8 8 9 1 3 7 4 9 4 8 9 7 7 8 2 3 8 8. */
    private static final int[] STATES = {
        0, 0, 0, 0, 0, 1, 1, 1, 1, 2, 3, 3, 3, 3, 3, 3, 0, 0, 1, 1, 2, 2, 3, 3, 3, 3, 3, 0, 0, 1, 2};

    public static void main(String[] args) {
        volume();
        pigs();
        states();
        months();
        year();
        wrongMonths();
        lastMonths();
        seed();
        now();
        doPigs();
        doPigsExactly();
        out();
        on();
        crop();
        cropOfBurntOnes();
        due.end();
    }

    private static void volume() {
        MountainFarms x = new MountainFarms();
        due.is("volume: was", x.volume(1), 12);
        due.is("volume: was", x.volume(99), 1);
        due.is("volume(0)", x.volume(0), Due.BEYOND);
        due.is("volume(100)", x.volume(100), Due.BEYOND);
        due.is("volume: is", x.now(4), 99);
        x.volume(2);
        Due.makeItComeOut(x);
        x.months(1);
        due.is("volume: flows", x.cellOf(8, 1), 0);
        due.is("volume: flows no further", x.cellOf(2, 1), 20);
    }

    private static void pigs() {
        MountainFarms x = new MountainFarms();
        due.is("pigs: not new", x.pigs(false), 0);
        due.is("pigs: new", x.pigs(true), 1);
        due.is("pigs: not new", x.pigs(true), 0);
        due.is("pigs: new", x.pigs(false), 1);
        x.months(1);
        due.is("pigs: not fed", x.now(6), 0);
        x.pigs(true);
        x.months(5);
        due.is("pigs: fed in one month", x.now(6), 1);
        due.is("pigs: no longer told", x.pigs(false), 0);
        due.is("pigs: it did not come out", x.now(7), 0);
        x.months(3);
        x.pigs(true);
        x.months(1);
        due.is("pigs: it came out", x.now(7), 1);
        due.is("pigs: fed", x.now(6), 2);
        x.pigs(true);
        x.months(1);
        due.is("pigs: it was out already", x.now(7), 1);
        due.is("pigs: fed", x.now(6), 3);
    }

    private static void states() {
        MountainFarms x = new MountainFarms();
        for (int n = 1; n <= 30; n++) {
            due.is("months: came out in month " + n, x.months(1), n == 10 || n == 22 ? 1 : 0);
            due.is("months: state after " + n, x.now(1), STATES[n]);
            due.is("months: month", x.now(0), n);
            if (n == 1) {
                due.is("months: z", x.count(5), 1103527590);
            }
        }
        due.is("months: z", x.count(5), -460845333);
        due.is("months: outs", x.now(5), 2);
    }

    private static void months() {
        MountainFarms x = new MountainFarms();
        x.farm(0, 14, 0);
        x.farm(2, 0, 1);
        x.farm(0, 11, 2);
        due.is("months(9)", x.months(9), 0);
        due.is("months: not burnt", x.count(1), 0);
        due.is("months: no ash", x.now(3), 99);
        due.is("months(1)", x.months(1), 1);
        due.is("months: ash", x.now(3), 0);
        due.is("months: two are burnt", x.count(1), 2);
        due.is("months: the first", x.of(0, 4), 1);
        due.is("months: the third", x.of(2, 4), 1);
        long came = Due.setOf(14, 8, 2, 3, 4, 5, 11);
        for (int cell = 0; cell < 36; cell++) {
            due.is("months: age of " + cell, x.cellOf(cell, 1), (came >> cell & 1) == 1 ? 0 : 20);
        }
        due.is("months: height where it piled up", x.cellOf(5, 0), 31);
        due.is("months: height where it piled up", x.cellOf(11, 0), 33);
        due.is("months: height where it went on", x.cellOf(8, 0), 45);
        due.is("months(20)", x.months(20), 1);
        x = new MountainFarms();
        x.vent(0);
        x.volume(1);
        Due.makeItComeOut(x);
        x.months(1);
        due.is("months: age of the first cell", x.cellOf(0, 1), 0);
        due.is("months: age of the next one", x.cellOf(1, 1), 20);
    }

    private static void year() {
        MountainFarms x = new MountainFarms();
        x.farm(0, 14, 0);
        x.farm(2, 0, 1);
        x.set(1, 1, 99);
        x.set(2, 1, 98);
        x.months(11);
        due.is("year: not over", x.of(1, 3), 0);
        due.is("year: not over", x.cellOf(0, 1), 20);
        due.is("year: not over", x.now(3), 0);
        x.months(1);
        due.is("year: bears", x.of(1, 3), 20);
        due.is("year: burnt ones don't", x.of(0, 3), 0);
        due.is("year: ages", x.cellOf(0, 1), 21);
        due.is("year: age on lava", x.cellOf(14, 1), 1);
        due.is("year: 99 at most", x.cellOf(1, 1), 99);
        due.is("year: ash", x.now(3), 1);
        Due.makeItRest(x);
        x.months(12);
        due.is("year: bears by the age ahead of it", x.of(1, 3), 20 + 20);
        x.months(12);
        due.is("year: bears more", x.of(1, 3), 20 + 20 + 21);
        for (int i = 0; i < 60; i++) {
            x.months(20);
        }
        due.is("year: ash 99 at most", x.now(3), 99);
        due.is("year: ages 99 at most", x.cellOf(14, 1), 99);
        lavaAheadOfTheYear();
    }

    private static void lavaAheadOfTheYear() {
        MountainFarms x = new MountainFarms();
        x.farm(0, 14, 0);
        x.farm(1, 0, 0);
        Due.makeItRest(x);
        x.months(11);
        Due.makeItComeOut(x);
        due.is("year: out in its last month", x.months(1), 1);
        due.is("year: burnt ahead of bearing", x.of(0, 3), 0);
        due.is("year: wheat on new ash", x.of(1, 3), 30);
        due.is("year: ash then", x.now(3), 1);
        due.is("year: age then", x.cellOf(14, 1), 1);
    }

    private static void wrongMonths() {
        MountainFarms x = new MountainFarms();
        int[] wrong = {0, -1, 241, Integer.MAX_VALUE, Integer.MIN_VALUE};
        for (int n : wrong) {
            due.is("months(" + n + ")", x.months(n), Due.BEYOND);
        }
        due.is("months: none went", x.now(0), 0);
        due.is("months: z stays", x.count(5), 1);
        due.is("months(240)", x.months(240) >= 0 ? 1 : 0, 1);
        due.is("months: 240 went", x.now(0), 240);
    }

    private static void lastMonths() {
        MountainFarms x = new MountainFarms();
        x.farm(0, 0, 0);
        Due.makeItRest(x);
        x.sheet(0, 8, 40);
        for (int i = 0; i < 40; i++) {
            x.months(240);
        }
        x.months(159);
        due.is("last: month", x.now(0), 9759);
        due.is("last: out can be asked", x.out(), Due.NONE);
        x.months(1);
        due.is("last: out can't", x.out(), Due.STATE);
        due.is("last: on(239)", x.on(239, 2), 0);
        due.is("last: on(240)", x.on(240, 2), Due.STATE);
        due.is("last: on, BEYOND first", x.on(240, 3), Due.BEYOND);
        due.is("last: crop(239)", x.crop(239), 5);
        due.is("last: crop(240)", x.crop(240), Due.STATE);
        due.is("last: crop, BEYOND first", x.crop(241), Due.BEYOND);
        due.is("last: months(240)", x.months(240), Due.STATE);
        x.months(199);
        due.is("last: read can be asked", x.read(0), 0);
        x.months(1);
        due.is("last: read can't", x.read(0), Due.STATE);
        due.is("last: read, MISSING first", x.read(1), Due.MISSING);
        x.months(38);
        due.is("last: months(2)", x.months(2), Due.STATE);
        due.is("last: months(1)", x.months(1), 0);
        due.is("last: month", x.now(0), 9999);
        due.is("last: months(1)", x.months(1), Due.STATE);
        due.is("last: months(0)", x.months(0), Due.BEYOND);
        due.is("last: on(0)", x.on(0, 2), 0);
        due.is("last: on(1)", x.on(1, 2), Due.STATE);
    }

    private static void seed() {
        MountainFarms x = new MountainFarms();
        due.is("seed: was", x.seed(-1), 1);
        due.is("seed: any number", x.seed(Due.BEYOND), -1);
        due.is("seed: any number", x.seed(0), Due.BEYOND);
        due.is("seed: no finding", x.status(-1), 0);
        // The draws of z 0: 8 8 5 8 ..
        x.seed(0);
        int[] states = {1, 2, 2, 3};
        for (int state : states) {
            x.months(1);
            due.is("seed: state", x.now(1), state);
        }
        x.seed(-1);
        due.is("seed: count", x.count(5), -1);
    }

    private static void now() {
        MountainFarms x = new MountainFarms();
        due.is("now(-1)", x.now(-1), Due.BEYOND);
        due.is("now(8)", x.now(8), Due.BEYOND);
        x.vent(20);
        x.volume(3);
        for (int n = 1; n <= 10; n++) {
            x.pigs(n % 2 == 0);
            x.months(1);
        }
        int[] dues = {10, 3, 20, 0, 3, 1, 5, 1};
        for (int what = 0; what < 8; what++) {
            due.is("now(" + what + ")", x.now(what), dues[what]);
        }
    }

    private static void doPigs() {
        MountainFarms x = new MountainFarms();
        due.is("doPigs: no month", x.doPigs(), Due.NONE);
        x.months(3);
        due.is("doPigs: never fed", x.doPigs(), Due.NONE);
        x.pigs(true);
        x.months(1);
        due.is("doPigs: it never came out", x.doPigs(), 0);
        MountainFarms y = new MountainFarms();
        y.pigs(true);
        y.months(1);
        due.is("doPigs: always fed", y.doPigs(), Due.NONE);
        due.is("doPigs: findings", y.status(3), 1);
    }

    private static void doPigsExactly() {
        MountainFarms x = new MountainFarms();
        Due.makeItPulse(x);
        x.pigs(true);
        x.months(1);
        x.months(1);
        due.is("doPigs: 0 of 1 without, 1 of 1 with", x.doPigs(), -1);
        x.months(1);
        due.is("doPigs: 1 of 2 without, 1 of 1 with", x.doPigs(), -1);
        x.pigs(true);
        x.months(1);
        due.is("doPigs: 1 of 2 without, 1 of 2 with", x.doPigs(), 0);
        x.months(1);
        due.is("doPigs: 2 of 3 without, 1 of 2 with", x.doPigs(), 1);
        x.pigs(true);
        x.months(1);
        due.is("doPigs: 2 of 3 without, 1 of 3 with", x.doPigs(), 1);
    }

    private static void out() {
        MountainFarms x = new MountainFarms();
        due.is("out: at first", x.out(), 10);
        x.months(9);
        due.is("out: next month", x.out(), 1);
        x.months(1);
        due.is("out: the next time", x.out(), 12);
        due.is("out: nothing changes", x.now(0), 10);
        due.is("out: nothing changes", x.now(1), 3);
        due.is("out: nothing changes", x.now(5), 1);
        Due.makeItComeOut(x);
        due.is("out: it stays out", x.out(), Due.NONE);
        due.is("out: told", x.status(3), 1);
        // With these tenths the draws of z 912 let it come out in month 240 first, those of z 374 in month 241.
        x = new MountainFarms();
        x.tenths(0, 0, 9, 1, 0);
        x.tenths(0, 1, 9, 0, 1);
        x.tenths(0, 2, 9, 0, 0);
        x.seed(912);
        due.is("out: in 240 months", x.out(), 240);
        x.seed(374);
        due.is("out: not in 241", x.out(), Due.NONE);
        x.months(1);
        due.is("out: then in 240", x.out(), 240);
    }

    private static void on() {
        MountainFarms x = new MountainFarms();
        x.farm(0, 14, 0);
        x.farm(2, 0, 1);
        x.farm(4, 5, 5);
        for (int n = 0; n <= 30; n++) {
            due.is("on: state after " + n, x.on(n, 2), STATES[n]);
        }
        due.is("on: not burnt", x.on(9, 0), 0);
        due.is("on: burnt", x.on(10, 0), 1 + 4);
        due.is("on: coins", x.on(11, 1), 0);
        due.is("on: coins", x.on(12, 1), 20);
        due.is("on: coins", x.on(24, 1), 40);
        due.is("on: coins", x.on(36, 1), 61);
        due.is("on: burnt are those now, too", x.on(0, 0), 0);
        x.months(10);
        due.is("on: burnt are those now, too", x.on(0, 0), 5);
        due.is("on(240, 0)", x.on(240, 0) & 5, 5);
        int[][] wrong = {{-1, 0}, {241, 0}, {0, -1}, {0, 3}};
        for (int[] w : wrong) {
            due.is("on(" + w[0] + ", " + w[1] + ")", x.on(w[0], w[1]), Due.BEYOND);
        }
        due.is("on: nothing changes", x.now(0), 10);
        due.is("on: nothing changes", x.cellOf(5, 0), 31);
        due.is("on: nothing changes", x.coins(1), 0);
        onKeepsPigs();
    }

    private static void onKeepsPigs() {
        MountainFarms x = new MountainFarms();
        x.pigs(true);
        x.on(12, 0);
        x.out();
        x.crop(12);
        due.is("on: pigs are still told", x.pigs(true), 0);
        due.is("on: z stays", x.count(5), 1);
    }

    private static void crop() {
        MountainFarms x = new MountainFarms();
        due.is("crop: no farm", x.crop(240), 0);
        x.farm(4, 0, 0);
        x.farm(4, 6, 1);
        due.is("crop: no year is over", x.crop(11), 0);
        due.is("crop: rye on new ash", x.crop(12), 3);
        Due.makeItRest(x);
        due.is("crop: of several the least", x.crop(12), 2);
        due.is("crop: nothing changes", x.of(0, 0), 4);
        due.is("crop: nothing changes", x.of(0, 3), 0);
        x.set(0, 1, 50);
        x.set(6, 1, 0);
        due.is("crop: on all", x.crop(12), 5);
        x.set(0, 1, 0);
        due.is("crop: on new ground", x.crop(12), 4);
        due.is("crop: when it's older", x.crop(240), 2);
        x.months(11);
        due.is("crop: in one month", x.crop(1), 4);
        due.is("crop(0)", x.crop(0), Due.BEYOND);
        due.is("crop(241)", x.crop(241), Due.BEYOND);
        due.is("crop(-1)", x.crop(-1), Due.BEYOND);
    }

    private static void cropOfBurntOnes() {
        MountainFarms x = new MountainFarms();
        x.farm(0, 14, 0);
        Due.makeItPulse(x);
        x.volume(1);
        x.months(1);
        due.is("crop: burnt ones bring nothing", x.crop(12), 0);
        for (int i = 0; i < 3; i++) {
            x.build(0);
            x.months(2);
        }
        Due.makeItRest(x);
        x.build(0);
        x.set(14, 1, 20);
        due.is("crop: coins below 0", x.of(0, 3) < -50 ? 1 : 0, 1);
        due.is("crop: of all below 0", x.crop(12), 3);
    }
}
