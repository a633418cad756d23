import java.util.ArrayList;
import java.util.List;

/**
 * Drawn runs of calls on the program and on Model side by side: every answer must be the same, and at the end of a
 * run all that can be asked. The draws come from fixed numbers, so that a run that fails fails again.
 */
public final class ModelTest {
    private static final int RUNS = 600;
    private static final int CALLS = 320;
    /** The arguments of each call, one sign each; "pair" makes two. */
    private static final String[][] CALL = {
        {"set", "cell", "0-1", "0-99"}, {"set", "cell", "0-1", "0-99"}, {"cellOf", "cell", "0-3"}, {"vent", "cell"},
        {"wall", "pair", "bool"}, {"wall", "pair", "bool"}, {"wall", "pair", "bool"},
        {"farm", "0-5", "cell", "0-5"}, {"farm", "0-5", "cell", "0-5"}, {"farm", "0-5", "near", "0-5"},
        {"farm", "0-5", "near", "0-5"}, {"of", "farm", "0-5"}, {"of", "farm", "0-5"},
        {"sow", "farm", "0-5"}, {"as", "farm", "0-5"}, {"build", "farm"}, {"build", "farm"}, {"coins", "0-5"},
        {"best", "farm"}, {"best", "farm"}, {"harvest", "0-5", "cell", "0-50"}, {"harvest", "0-5", "near", "0-50"},
        {"tenths", "0-1", "0-3", "tenth", "tenth", "tenth"}, {"tenths", "0-1", "0-3", "tenth", "tenth", "tenth"},
        {"tenth", "0-1", "0-3", "0-3"}, {"sees", "0-3"}, {"sees", "0-3"}, {"sees", "0-3"}, {"sees", "0-3"},
        {"burn"}, {"weight", "-1-3"}, {"weight", "-1-3"}, {"likeliest"}, {"likeliest"}, {"flee", "0-10"},
        {"flee", "0-10"}, {"dread"}, {"dread"}, {"dread"},
        {"flow", "cell", "1-99"}, {"flow", "cell", "1-99"}, {"hit", "1-99"}, {"hit", "1-99"}, {"least", "farm"},
        {"least", "farm"}, {"turnsOn", "pair", "1-99"}, {"turnsOn", "pair", "1-99"}, {"turnsOn", "pair", "1-99"},
        {"save", "1-99"}, {"save", "1-99"}, {"save", "1-99"},
        {"volume", "1-99"}, {"pigs", "bool"}, {"pigs", "bool"}, {"pigs", "bool"}, {"months", "1-12"},
        {"months", "1-12"}, {"months", "1-3"}, {"months", "1-1"}, {"months", "1-240"}, {"seed", "int"},
        {"now", "0-7"}, {"now", "0-7"}, {"doPigs"}, {"doPigs"}, {"out"}, {"on", "0-240", "0-2"},
        {"on", "0-30", "0-2"}, {"crop", "1-240"}, {"crop", "1-40"},
        {"feed", "int", "1-4"}, {"wipe"}, {"slope"},
        {"sheet", "0-3", "bits", "0-40"}, {"sheet", "0-3", "bits", "0-40"}, {"write", "0-3", "0-40", "long"},
        {"write", "0-3", "0-9", "long"}, {"write", "0-3", "0-9", "long"}, {"copy", "0-3", "0-9", "0-3", "0-9", "0-9"},
        {"copy", "0-3", "0-40", "0-3", "0-40", "0-9"}, {"lays", "0-3"}, {"book", "0-3"}, {"read", "0-3"},
        {"image"}, {"undo"}, {"tear"}, {"count", "0-5"}, {"count", "0-5"}, {"status", "-1-6"}};

    private static final Due due = new Due("ModelTest");

    private long drawn;
    private MountainFarms x;
    private Model model;
    private final List<String> told = new ArrayList<>();
    private boolean isWrong = false;

    public static void main(String[] args) throws Exception {
        for (int run = 0; run < RUNS; run++) {
            new ModelTest().go(run);
        }
        due.end();
    }

    private int draw(int n) {
        drawn = drawn * 6364136223846793005L + 1442695040888963407L;
        return (int) ((drawn >>> 33) % n);
    }

    private void go(int run) throws Exception {
        drawn = 7919L * run + 1;
        x = new MountainFarms();
        model = new Model();
        prepare(run);
        // Runs with long months come to the last month; the others stay among the first ones.
        boolean isLong = run % 10 == 0;
        for (int i = 0; i < CALLS && !isWrong; i++) {
            String[] call = CALL[draw(CALL.length)];
            if (call[0].equals("slope") || draw(40) == 0) {
                text();
            } else if (draw(60) == 0) {
                foretell();
            } else if (isLong && draw(4) == 0) {
                both("months", 180 + draw(61));
            } else if (isLong || !(call[0].equals("months") && call[1].equals("1-240")) || draw(4) == 0) {
                both(call[0], arguments(call));
            }
        }
        for (int which = -1; which < 7 && !isWrong; which++) {
            both("status", which);
        }
        lookAtAll();
    }

    /** Some runs begin on rugged ground, some with even ground, some with a restless mountain. */
    private void prepare(int run) throws Exception {
        if (run % 3 == 1) {
            for (int cell = 0; cell < 36; cell++) {
                both("set", cell, 0, draw(run % 2 == 0 ? 12 : 100));
                both("set", cell, 1, draw(100));
            }
        }
        if (run % 4 == 1) {
            both("tenths", 0, 0, 2, 2, 2);
            both("tenths", 0, 3, 5, 3, 1);
        }
        for (int i = draw(9); i > 0; i--) {
            both("farm", draw(6), near(), draw(6));
        }
    }

    private int near() {
        return 6 * draw(4) + draw(6);
    }

    private long[] arguments(String[] call) {
        List<Long> args = new ArrayList<>();
        for (int i = 1; i < call.length; i++) {
            if (call[i].equals("pair")) {
                long one = draw(36);
                long[] ways = {-6, 1, 6, -1};
                args.add(one);
                args.add(draw(8) == 0 ? draw(38) - 1 : one + ways[draw(4)]);
            } else {
                args.add(argument(call[i]));
            }
        }
        return args.stream().mapToLong(Long::longValue).toArray();
    }

    private long argument(String sort) {
        switch (sort) {
            case "bool": return draw(2);
            case "int": return draw(4) == 0 ? draw(10) - 5 : (int) (drawn >>> 20);
            case "long": return draw(3) == 0 ? drawn >>> draw(64) : draw(120) - 5;
            case "bits": return new int[] {0, 8, 8, 16, 16, 64, 64, 8, 32, 1}[draw(draw(9) == 0 ? 10 : 8)];
            case "cell": return ranged(0, 35);
            case "near": return near();
            case "farm": return draw(12) == 0 ? ranged(0, 11) : draw(Math.max(1, model.w.farms.size()));
            case "tenth": return draw(20) == 0 ? ranged(0, 10) : draw(5);
            default: {
                int cut = sort.indexOf('-', 1);
                return ranged(Integer.parseInt(sort.substring(0, cut)), Integer.parseInt(sort.substring(cut + 1)));
            }
        }
    }

    private long ranged(int least, int most) {
        switch (draw(40)) {
            case 0: return least - 1;
            case 1: return most + 1;
            case 2: return least;
            case 3: return most;
            case 4: return draw(4) == 0 ? Integer.MAX_VALUE : least;
            case 5: return draw(4) == 0 ? Integer.MIN_VALUE : most;
            default: return least + draw(most - least + 1);
        }
    }

    /** A sheet with states to come, for read(): else hardly one would be right. */
    private void foretell() throws Exception {
        int s = draw(4);
        int n = draw(41);
        both("sheet", s, 8, n);
        if (model.w.month > 9959) {
            return;
        }
        for (int i = 0; i < n; i++) {
            both("write", s, i, model.call("on", i, 2));
        }
        if (draw(2) == 0) {
            both("write", s, draw(40), draw(4));
        }
        both("read", s);
    }

    private void text() throws Exception {
        StringBuilder text = new StringBuilder();
        for (int items = 1 + draw(5); items > 0; items--) {
            text.append(item()).append(items > 1 ? blanks() + ";" + blanks() : blanks());
        }
        for (int slips = draw(3) == 0 ? 1 + draw(2) : 0; slips > 0 && text.length() > 0; slips--) {
            int at = draw(text.length());
            switch (draw(4)) {
                case 0: text.deleteCharAt(at); break;
                case 1: text.setCharAt(at, "0123456789 ;;abwxyz{`/:\u00ff\t".charAt(draw(25))); break;
                case 2: text.insert(at, "0123456789 ;;abwxyz".charAt(draw(19))); break;
                default: text.setLength(at); break;
            }
        }
        if (draw(5) > 0) {
            both("wipe");
        }
        for (int i = 0; i < text.length(); ) {
            int n = Math.min(1 + draw(4), text.length() - i);
            int bytes = draw(256);
            for (int k = 0; k < n; k++) {
                bytes = bytes << 8 | text.charAt(i + k);
            }
            both("feed", bytes, n);
            i += n;
        }
        both("slope");
    }

    private String blanks() {
        return " ".repeat(draw(2) * draw(3));
    }

    private String item() {
        String[] kinds = {"farm", "wheat", "vines", "rye", "goats", "oldvines"};
        switch (draw(8)) {
            case 0: case 1: return kinds[draw(6)] + " at " + number(36) + (draw(2) == 0 ? " owner " + number(6) : "");
            case 2: {
                int one = draw(36);
                return "wall " + one + " " + (one + new int[] {1, 6, 1, 6, 2}[draw(5)]);
            }
            case 3: return (draw(2) == 0 ? "height " : "age ") + number(36) + " " + number(100);
            case 4: return "vent " + number(36);
            case 5: {
                StringBuilder sees = new StringBuilder("sees");
                for (int n = draw(7) + draw(12) / 11; n > 0; n--) {
                    sees.append(' ').append(number(4));
                }
                return sees.toString();
            }
            default: {
                int a = draw(11);
                int b = draw(11 - a);
                int c = draw(11 - a - b);
                int d = 10 - a - b - c + (draw(15) == 0 ? 1 - draw(3) : 0);
                return (draw(2) == 0 ? "chance " : "sign ") + number(4) + " " + a + " " + b + " " + c + " " + Math.abs(d);
            }
        }
    }

    private String number(int below) {
        int drawn = draw(25) == 0 ? below + draw(3) : draw(below);
        return (draw(12) == 0 ? "00" : "") + drawn;
    }

    private void lookAtAll() throws Exception {
        for (int cell = 0; cell < 36; cell++) {
            for (int what = 0; what < 4; what++) {
                both("cellOf", cell, what);
            }
        }
        for (int farm = 0; farm < 12; farm++) {
            for (int what = 0; what < 6; what++) {
                both("of", farm, what);
            }
        }
        for (int i = 0; i < 8; i++) {
            both("now", i);
            both("count", i);
            both("weight", i - 1);
            both("tenth", i / 4, i % 4, 0);
            both("tenth", i / 4, i % 4, 1);
            both("tenth", i / 4, i % 4, 2);
            both("tenth", i / 4, i % 4, 3);
        }
        for (int s = 0; s < 4; s++) {
            for (int i = 0; i < 40; i++) {
                both("write", s, i, 0);
            }
        }
        both("pigs", 1);
        both("undo");
        both("count", 0);
        both("on", 12, 1);
    }

    /** One call on both sides. */
    private void both(String name, long... args) throws Exception {
        if (isWrong) {
            return;
        }
        String text = Calls.text(name, args);
        long got = Calls.call(x, name, args);
        long want = model.call(name, args);
        told.add(text + " = " + got);
        due.is(text, got, want);
        if (got != want) {
            isWrong = true;
            System.out.println("the run: " + String.join("; ", told));
        }
    }
}
