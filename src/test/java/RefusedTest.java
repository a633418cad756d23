import java.util.ArrayList;
import java.util.List;

/**
 * "Each act tells its findings in the order in which they are asked; one that answers a finding changes nothing but
 * status()": each refused call on one of two twins, which must then differ by just the one finding that is counted.
 */
public final class RefusedTest {
    private static final Due due = new Due("RefusedTest");
    private static final int LEAST = Integer.MIN_VALUE;
    private static final int MOST = Integer.MAX_VALUE;

    /** Calls that may be in the rich state, each argument with its bounds there; "*" is any number. */
    private static final String[] BOUNDS = {
        "set 7:0..35 0:0..1 50:0..99", "set 7:0..35 1:0..1 50:0..99", "cellOf 7:0..35 0:0..3", "vent 7:0..35",
        "farm 4:0..5 7:0..35 2:0..5", "of 1:0..2 3:0..5", "sow 1:0..2 2:0..5", "as 1:0..2 3:0..5", "build 0:0..2",
        "coins 2:0..5", "best 1:0..2", "harvest 2:0..5 7:0..35 9:0..50", "tenths 0:0..1 2:0..3 2:0..6 3:0..7 1:0..5",
        "tenths 1:0..1 2:0..3 0:0..0 0:0..0 10:0..10", "tenth 0:0..1 2:0..3 1:0..3", "sees 2:0..3", "weight 2:-1..3",
        "flee 5:0..10", "flow 7:0..35 12:1..99", "hit 12:1..99", "least 1:0..2", "turnsOn 7 8 12:1..99",
        "save 12:1..99", "volume 12:1..99", "months 7:1..240", "now 3:0..7", "on 7:0..240 1:0..2", "crop 7:1..240",
        "feed * 2:1..4", "sheet 1:0..3 16 7:*..40", "sheet 1:0..3 0 7:*..40", "write 1:0..3 1:0..1 *",
        "copy 0:0..3 1:0..1 2:0..3 0:0..0 2:0..2", "copy 0:0..3 3:0..3 2:0..3 2:0..2 0:0..0", "lays 0:0..3",
        "book 0:0..3", "read 0:0..3", "count 3:0..5", "status 3:-1..6"};

    public static void main(String[] args) throws Exception {
        twinsAreAlike();
        for (String bounds : BOUNDS) {
            beyondEachBound(bounds.split(" "));
        }
        beyondOtherwise();
        full();
        kind();
        none();
        state();
        missing();
        size();
        order();
        due.end();
    }

    private static MountainFarms inState(String state) {
        MountainFarms x = new MountainFarms();
        switch (state) {
            case "rich": rich(x); break;
            case "full": full(x); break;
            case "late": late(x); break;
            case "hopeless": hopeless(x); break;
            default: break;
        }
        return x;
    }

    /** Three farms, the first one burnt; two signs; an image unlike what is; a tape; sheets of 8, 16, 8 bits. */
    private static void rich(MountainFarms x) {
        x.farm(0, 14, 0);
        x.farm(3, 0, 1);
        x.farm(5, 8, 2);
        x.wall(14, 15, true);
        x.tenths(0, 0, 0, 0, 0);
        x.volume(1);
        x.pigs(true);
        x.months(1);
        x.image();
        x.set(20, 1, 60);
        x.vent(20);
        x.volume(7);
        x.sees(1);
        x.sees(2);
        x.pigs(true);
        Due.feed(x, "vent 7");
        x.sheet(0, 8, 3);
        x.sheet(1, 16, 2);
        x.sheet(2, 8, 2);
        x.write(0, 1, -7);
        x.write(1, 1, 300);
        x.write(2, 0, 5);
    }

    private static void full(MountainFarms x) {
        rich(x);
        for (int farm = 3; farm < 12; farm++) {
            x.farm(4, 20 + farm, 3);
        }
        for (int sign = 0; sign < 4; sign++) {
            x.sees(sign);
        }
        Due.feed(x, " ".repeat(113));
    }

    /** MONTH 9960. */
    private static void late(MountainFarms x) {
        rich(x);
        for (int i = 0; i < 41; i++) {
            x.months(240);
        }
        x.months(119);
    }

    /** No state can be the mountain's; and it stays asleep. */
    private static void hopeless(MountainFarms x) {
        x.tenths(0, 0, 10, 0, 0);
        x.tenths(1, 0, 0, 10, 0);
        x.sees(0);
    }

    private static void twinsAreAlike() {
        for (String state : new String[] {"bare", "rich", "full", "late", "hopeless"}) {
            due.that("twins: " + state, Snapshot.of(inState(state)).equals(Snapshot.of(inState(state))));
        }
        due.is("late: month", inState("late").now(0), 9960);
        due.is("full: farms", inState("full").count(0), 12);
        due.is("full: signs", inState("full").count(4), 6);
        due.is("full: bytes", inState("full").count(3), 119);
    }

    /** The call, and what it counts: one finding of its kind, and nothing else changes. */
    private static void refused(String state, int finding, String name, long... args) throws Exception {
        MountainFarms x = inState(state);
        MountainFarms twin = inState(state);
        String text = state + ": " + Calls.text(name, args);
        int[] were = told(x);
        due.is(text, Calls.call(x, name, args), finding);
        were[0]++;
        were[Due.BEYOND - finding + 1]++;
        int[] are = told(x);
        for (int which = -1; which < 7; which++) {
            due.is(text + ", then status(" + which + ")", are[which + 1], were[which + 1]);
        }
        due.that(text + " changes nothing", Snapshot.of(x).equals(Snapshot.of(twin)));
    }

    private static int[] told(MountainFarms x) {
        int[] told = new int[8];
        for (int which = -1; which < 7; which++) {
            told[which + 1] = x.status(which);
        }
        return told;
    }

    /** At its bounds an argument isn't BEYOND; one less than the least and one more than the most it is. */
    private static void beyondEachBound(String[] call) throws Exception {
        long[] base = new long[call.length - 1];
        for (int i = 0; i < base.length; i++) {
            String first = call[i + 1].split(":")[0];
            base[i] = first.equals("*") ? -77 : Long.parseLong(first);
        }
        isWithin(call[0], base);
        for (int i = 0; i < base.length; i++) {
            String[] bounds = call[i + 1].contains(":") ? call[i + 1].split(":")[1].split("\\.\\.") : new String[0];
            if (bounds.length == 2 && !bounds[0].equals("*")) {
                int least = Integer.parseInt(bounds[0]);
                isWithin(call[0], with(base, i, least));
                refused("rich", Due.BEYOND, call[0], with(base, i, least - 1));
                refused("rich", Due.BEYOND, call[0], with(base, i, LEAST));
            }
            if (bounds.length == 2) {
                int most = Integer.parseInt(bounds[1]);
                isWithin(call[0], with(base, i, most));
                refused("rich", Due.BEYOND, call[0], with(base, i, most + 1));
                refused("rich", Due.BEYOND, call[0], with(base, i, MOST));
            }
        }
    }

    private static long[] with(long[] base, int place, long v) {
        long[] args = base.clone();
        args[place] = v;
        return args;
    }

    private static void isWithin(String name, long... args) throws Exception {
        due.that(Calls.text(name, args) + " isn't BEYOND", Calls.call(inState("rich"), name, args) != Due.BEYOND);
    }

    private static void beyondOtherwise() throws Exception {
        List<long[]> pairs = new ArrayList<>();
        for (long[] pair : new long[][] {{7, 7}, {5, 6}, {0, 7}, {0, 2}, {0, 12}, {0, -1}, {0, -6}, {35, 36}, {29, 41},
            {LEAST, 0}, {MOST, LEAST}, {MOST, MOST}, {LEAST, LEAST}}) {
            pairs.add(pair);
            pairs.add(new long[] {pair[1], pair[0]});
        }
        for (long[] pair : pairs) {
            refused("rich", Due.BEYOND, "wall", pair[0], pair[1], 1);
            refused("rich", Due.BEYOND, "wall", pair[0], pair[1], 0);
            refused("rich", Due.BEYOND, "turnsOn", pair[0], pair[1], 12);
        }
        for (long bits : new long[] {-8, -1, 1, 7, 9, 15, 17, 24, 32, 63, 65, 128, LEAST, MOST}) {
            refused("rich", Due.BEYOND, "sheet", 1, bits, 2);
        }
        for (long[] t : new long[][] {{4, 4, 3}, {11, 0, 0}, {11, -1, 0}, {-1, 11, 0}, {0, -1, 11}, {MOST, MOST, 2},
            {MOST, 2, MOST}, {LEAST, LEAST, 5}, {LEAST, MOST, 1}, {5, LEAST, LEAST}}) {
            refused("rich", Due.BEYOND, "tenths", 0, 0, t[0], t[1], t[2]);
            refused("rich", Due.BEYOND, "tenths", 1, 3, t[0], t[1], t[2]);
        }
        for (String name : new String[] {"of", "sow", "as"}) {
            refused("bare", Due.BEYOND, name, 0, 0);
            refused("full", Due.BEYOND, name, 12, 0);
        }
        for (String name : new String[] {"build", "best", "least"}) {
            refused("bare", Due.BEYOND, name, 0);
            refused("full", Due.BEYOND, name, 12);
        }
        beyondTheSheets();
    }

    private static void beyondTheSheets() throws Exception {
        refused("rich", Due.BEYOND, "write", 0, 3, 1);
        // From sheet 0 (three numbers) to sheet 2 (two).
        long[][] copies = {{0, 0, 0, 3}, {0, 2, 0, 2}, {0, 0, 1, 2}, {0, 0, 2, 1}, {0, 4, 0, 0}, {0, 0, 3, 0},
            {0, 3, 0, 1}, {0, MOST, 0, 1}, {0, 1, 0, MOST}, {0, MOST, MOST, MOST}, {0, 0, MOST, 0}, {0, LEAST, 0, 0},
            {0, -1, 0, 1}, {0, 0, -1, 1}, {0, 0, 0, -1}, {0, 1, 0, -1}, {0, 2, 2, -2}, {0, -1, -1, -1}};
        for (long[] c : copies) {
            refused("rich", Due.BEYOND, "copy", c[0], c[1], 2, c[2], c[3]);
        }
    }

    private static void full() throws Exception {
        refused("full", Due.FULL, "farm", 0, 35, 0);
        for (int sign = 0; sign < 4; sign++) {
            refused("full", Due.FULL, "sees", sign);
        }
        for (int n = 2; n <= 4; n++) {
            refused("full", Due.FULL, "feed", 0x20202020, n);
        }
    }

    private static void kind() throws Exception {
        refused("rich", Due.KIND, "as", 0, 1);
        refused("rich", Due.KIND, "as", 0, 5);
        refused("rich", Due.KIND, "as", 1, 2);
        refused("rich", Due.KIND, "as", 1, 4);
        refused("rich", Due.KIND, "as", 2, 1);
        refused("rich", Due.KIND, "as", 2, 3);
        refused("rich", Due.KIND, "copy", 0, 0, 1, 0, 1);
        refused("rich", Due.KIND, "copy", 1, 0, 2, 0, 0);
    }

    private static void none() throws Exception {
        refused("bare", Due.NONE, "doPigs");
        refused("bare", Due.NONE, "undo");
        refused("bare", Due.NONE, "save", 99);
        // Pigs were fed in its one month.
        refused("rich", Due.NONE, "doPigs");
        refused("rich", Due.NONE, "save", 1);
        refused("rich", Due.NONE, "least", 1);
        refused("full", Due.NONE, "dread");
        refused("hopeless", Due.NONE, "likeliest");
        refused("hopeless", Due.NONE, "flee", 0);
        refused("hopeless", Due.NONE, "flee", 10);
        refused("hopeless", Due.NONE, "dread");
        refused("hopeless", Due.NONE, "out");
    }

    private static void state() throws Exception {
        refused("rich", Due.STATE, "farm", 1, 14, 0);
        refused("rich", Due.STATE, "farm", 1, 0, 0);
        refused("rich", Due.STATE, "build", 1);
        refused("rich", Due.STATE, "build", 2);
        refused("rich", Due.STATE, "least", 0);
        refused("rich", Due.STATE, "turnsOn", 14, 15, 5);
        refused("rich", Due.STATE, "turnsOn", 15, 14, 5);
        refused("late", Due.STATE, "out");
        refused("late", Due.STATE, "months", 40);
        refused("late", Due.STATE, "months", 240);
        for (int what = 0; what < 3; what++) {
            refused("late", Due.STATE, "on", 40, what);
            refused("late", Due.STATE, "on", 240, what);
        }
        refused("late", Due.STATE, "crop", 40);
        refused("late", Due.STATE, "crop", 240);
        refused("late", Due.STATE, "read", 0);
    }

    private static void missing() throws Exception {
        refused("rich", Due.MISSING, "write", 3, 0, 1);
        refused("rich", Due.MISSING, "copy", 0, 0, 3, 0, 1);
        refused("rich", Due.MISSING, "copy", 3, 0, 0, 0, 1);
        refused("rich", Due.MISSING, "copy", 3, 0, 3, 0, 0);
        for (String name : new String[] {"lays", "book", "read"}) {
            refused("rich", Due.MISSING, name, 3);
        }
    }

    private static void size() throws Exception {
        for (long bits : new long[] {0, 8, 16, 64}) {
            for (long n : new long[] {-1, -41, LEAST}) {
                refused("rich", Due.SIZE, "sheet", 0, bits, n);
                refused("rich", Due.SIZE, "sheet", 3, bits, n);
            }
        }
    }

    /** Calls that more than one finding could be told of. */
    private static void order() throws Exception {
        refused("full", Due.BEYOND, "farm", 6, 14, 0);
        refused("full", Due.BEYOND, "farm", 0, 35, 6);
        refused("full", Due.STATE, "farm", 0, 14, 0);
        refused("full", Due.BEYOND, "sees", 4);
        refused("full", Due.BEYOND, "sees", -1);
        refused("hopeless", Due.BEYOND, "flee", 11);
        refused("hopeless", Due.BEYOND, "flee", -1);
        refused("rich", Due.BEYOND, "turnsOn", 14, 15, 0);
        refused("rich", Due.BEYOND, "turnsOn", 14, 15, 100);
        refused("bare", Due.BEYOND, "save", 0);
        refused("bare", Due.BEYOND, "save", 100);
        refused("late", Due.BEYOND, "months", 241);
        refused("late", Due.BEYOND, "on", 241, 0);
        refused("late", Due.BEYOND, "on", 240, 3);
        refused("late", Due.BEYOND, "crop", 241);
        refused("full", Due.BEYOND, "feed", 0, 5);
        refused("full", Due.BEYOND, "feed", 0, 0);
        refused("rich", Due.BEYOND, "sheet", 4, 8, -1);
        refused("rich", Due.BEYOND, "sheet", 1, 32, -1);
        refused("rich", Due.MISSING, "write", 3, 40, 1);
        refused("rich", Due.MISSING, "write", 3, -1, 1);
        orderOfCopyAndRead();
    }

    private static void orderOfCopyAndRead() throws Exception {
        refused("rich", Due.BEYOND, "copy", 3, 0, 4, 0, 1);
        refused("rich", Due.BEYOND, "copy", -1, 0, 3, 0, 1);
        refused("rich", Due.MISSING, "copy", 3, 0, 1, 0, 1);
        refused("rich", Due.MISSING, "copy", 0, 9, 3, 0, 1);
        refused("rich", Due.MISSING, "copy", 0, 0, 3, 0, -1);
        refused("rich", Due.KIND, "copy", 0, 9, 1, 0, 1);
        refused("rich", Due.KIND, "copy", 0, 0, 1, -1, 1);
        refused("rich", Due.KIND, "copy", 0, 0, 1, 0, -1);
        refused("late", Due.MISSING, "read", 3);
        refused("late", Due.BEYOND, "read", 4);
    }
}
