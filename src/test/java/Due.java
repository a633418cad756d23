/** Counts the answers that are not the ones that are due, and ends a test by them. */
final class Due {
    static final int BEYOND = -1000000001;
    static final int FULL = -1000000002;
    static final int KIND = -1000000003;
    static final int NONE = -1000000004;
    static final int STATE = -1000000005;
    static final int MISSING = -1000000006;
    static final int SIZE = -1000000007;

    private final String test;
    private int asked = 0;
    private int wrong = 0;

    Due(String test) {
        this.test = test;
    }

    void is(String call, long got, long want) {
        asked++;
        if (got != want) {
            wrong++;
            System.out.println(test + ": " + call + " answered " + got + ", due is " + want);
        }
    }

    void that(String what, boolean holds) {
        is(what, holds ? 1 : 0, 1);
    }

    void end() {
        System.out.println(test + ": " + asked + " asked, " + wrong + " wrong");
        if (wrong != 0) {
            System.exit(1);
        }
    }

    /** Feeds a text, four bytes at most a call. */
    static void feed(MountainFarms x, String text) {
        for (int i = 0; i < text.length(); i += 4) {
            int n = Math.min(4, text.length() - i);
            int bytes = 0;
            for (int k = 0; k < n; k++) {
                bytes = bytes << 8 | text.charAt(i + k);
            }
            x.feed(bytes, n);
        }
    }

    static int slope(MountainFarms x, String text) {
        feed(x, text);
        return x.slope();
    }

    /** A set of the numbers told. */
    static long setOf(int... numbers) {
        long set = 0;
        for (int number : numbers) {
            set |= 1L << number;
        }
        return set;
    }

    /** A mountain that comes out in the next month and stays out. */
    static void makeItComeOut(MountainFarms x) {
        for (int state = 0; state < 3; state++) {
            x.tenths(0, state, 0, 0, 0);
        }
        x.tenths(0, 3, 0, 0, 0);
    }

    /** A mountain that stays in the state in which it is. */
    static void makeItRest(MountainFarms x) {
        x.tenths(0, 0, 10, 0, 0);
        x.tenths(0, 1, 0, 10, 0);
        x.tenths(0, 2, 0, 0, 10);
        x.tenths(0, 3, 0, 0, 0);
    }

    /** A mountain that goes out and asleep by turns. */
    static void makeItPulse(MountainFarms x) {
        x.tenths(0, 0, 0, 0, 0);
        x.tenths(0, 3, 10, 0, 0);
    }
}
