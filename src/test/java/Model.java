import java.math.BigInteger;
import java.util.ArrayList;
import java.util.Arrays;
import java.util.HashSet;
import java.util.LinkedHashSet;
import java.util.List;
import java.util.Map;
import java.util.Set;
import java.util.TreeSet;
import java.util.function.ToIntFunction;
import java.util.regex.Matcher;
import java.util.regex.Pattern;

/**
 * The document once more, written apart from the program and by other means (sets, lists, big numbers, patterns),
 * so that a slip in one of them shows as a difference.
 */
final class Model {
    static final Map<String, Integer> FINDINGS = Map.of("BEYOND", 0, "FULL", 1, "KIND", 2, "NONE", 3, "STATE", 4,
        "MISSING", 5, "SIZE", 6);
    private static final List<String> NAMES = List.of("farm", "wheat", "vines", "rye", "goats", "oldvines");
    private static final Pattern TOKEN = Pattern.compile("[a-z]+|[0-9]+|;");

    /** What an act throws here to answer a finding. */
    static final class Finding extends RuntimeException {
        private static final long serialVersionUID = 1;
        final int index;

        Finding(String name) {
            super(name, null, false, false);
            index = FINDINGS.get(name);
        }
    }

    static final class Fault extends RuntimeException {
        private static final long serialVersionUID = 1;
        final int place;

        Fault(int place) {
            super("fault", null, false, false);
            this.place = place;
        }
    }

    static final class Farm {
        int kind;
        int cell;
        int owner;
        int coins;
        boolean burnt;

        Farm(int kind, int cell, int owner) {
            this.kind = kind;
            this.cell = cell;
            this.owner = owner;
        }

        Farm(Farm f) {
            this(f.kind, f.cell, f.owner);
            coins = f.coins;
            burnt = f.burnt;
        }
    }

    /** Section 1. */
    static final class World {
        int[] height = new int[36];
        int[] age = new int[36];
        Set<List<Integer>> walls = new HashSet<>();
        int vent = 14;
        List<Farm> farms = new ArrayList<>();
        int ash = 99;
        int state = 0;
        int[][] chance = {{7, 3, 0, 0}, {0, 7, 3, 0}, {0, 0, 7, 3}, {3, 0, 0, 7}};
        int[][] sign = {{7, 1, 1, 1}, {1, 7, 1, 1}, {1, 1, 7, 1}, {1, 1, 1, 7}};
        List<Integer> diary = new ArrayList<>();
        int month = 0;
        int z = 1;
        int volume = 12;
        int outs = 0;
        boolean pigs = false;
        int fed = 0;
        int fedOuts = 0;

        World() {
            for (int c = 0; c < 36; c++) {
                height[c] = 50 - 5 * (Math.abs(c / 6 - 2) + Math.abs(c % 6 - 2));
                age[c] = 20;
            }
        }

        World(World w) {
            height = w.height.clone();
            age = w.age.clone();
            walls = new HashSet<>(w.walls);
            vent = w.vent;
            for (Farm f : w.farms) {
                farms.add(new Farm(f));
            }
            ash = w.ash;
            state = w.state;
            chance = Arrays.stream(w.chance).map(int[]::clone).toArray(int[][]::new);
            sign = Arrays.stream(w.sign).map(int[]::clone).toArray(int[][]::new);
            diary = new ArrayList<>(w.diary);
            month = w.month;
            z = w.z;
            volume = w.volume;
            outs = w.outs;
            pigs = w.pigs;
            fed = w.fed;
            fedOuts = w.fedOuts;
        }

        Set<Integer> lava(int from, int volume) {
            Set<Integer> came = new LinkedHashSet<>();
            int at = from;
            came.add(at);
            for (int left = volume - 1; left > 0; left--) {
                int best = -1;
                int[] rows = {-1, 0, 1, 0};
                int[] columns = {0, 1, 0, -1};
                for (int way = 3; way >= 0; way--) {
                    int r = at / 6 + rows[way];
                    int c = at % 6 + columns[way];
                    if (r < 0 || r > 5 || c < 0 || c > 5) {
                        continue;
                    }
                    int to = 6 * r + c;
                    if (walls.contains(pair(at, to)) || height[to] >= height[at]) {
                        continue;
                    }
                    if (best == -1 || height[to] <= height[best]) {
                        best = to;
                    }
                }
                if (best == -1) {
                    height[at] = Math.min(99, height[at] + 3);
                } else {
                    at = best;
                }
                came.add(at);
            }
            return came;
        }

        boolean month() {
            z = (int) (z * 1103515245L + 12345L);
            int draw = (int) (((z & 0xffffffffL) >> 8) % 10);
            int was = state;
            List<Integer> wheel = new ArrayList<>();
            for (int s = 0; s < 4; s++) {
                for (int i = 0; i < chance[was][s]; i++) {
                    wheel.add(s);
                }
            }
            state = wheel.get(draw);
            boolean out = was != 3 && state == 3;
            if (out) {
                Set<Integer> came = lava(vent, volume);
                came.forEach(c -> age[c] = 0);
                farms.stream().filter(f -> came.contains(f.cell)).forEach(f -> f.burnt = true);
                ash = 0;
                outs++;
            }
            if (month % 12 == 11) {
                for (Farm f : farms) {
                    f.coins += f.burnt ? 0 : bears(f.kind, age[f.cell], ash);
                }
                for (int c = 0; c < 36; c++) {
                    age[c] += age[c] < 99 ? 1 : 0;
                }
                ash += ash < 99 ? 1 : 0;
            }
            if (pigs) {
                fed++;
                if (out) {
                    fedOuts++;
                }
            }
            month++;
            pigs = false;
            return out;
        }

        BigInteger[] weights(List<Integer> seen) {
            BigInteger[] parts = {BigInteger.TEN, BigInteger.ZERO, BigInteger.ZERO, BigInteger.ZERO};
            for (int s : seen) {
                BigInteger[] next = new BigInteger[4];
                for (int to = 0; to < 4; to++) {
                    next[to] = BigInteger.ZERO;
                    for (int from = 0; from < 4; from++) {
                        next[to] = next[to].add(parts[from].multiply(BigInteger.valueOf(chance[from][to])));
                    }
                    next[to] = next[to].multiply(BigInteger.valueOf(sign[to][s]));
                }
                parts = next;
            }
            return parts;
        }

        int coins() {
            return farms.stream().mapToInt(f -> f.coins).sum();
        }

        Farm on(int cell) {
            return farms.stream().filter(f -> f.cell == cell).findFirst().orElse(null);
        }
    }

    static List<Integer> pair(int a, int b) {
        return List.of(Math.min(a, b), Math.max(a, b));
    }

    static boolean areBeside(long a, long b) {
        if (a < 0 || a > 35 || b < 0 || b > 35) {
            return false;
        }
        return Math.abs(a / 6 - b / 6) + Math.abs(a % 6 - b % 6) == 1;
    }

    static int bears(int kind, int age, int ash) {
        switch (NAMES.get(kind)) {
            case "wheat": return bears(0, age, ash) + (ash < 10 ? (10 - ash) * 2 : 0);
            case "vines": return bears(0, age, ash) + (age / 2 > 25 ? 25 : age / 2);
            case "rye": return bears(1, age, ash) + 3;
            case "goats": return 6;
            case "oldvines": return bears(2, age, ash) + (age >= 50 ? 10 : 0);
            default: return age < 5 ? 0 : 10;
        }
    }

    static BigInteger sum(BigInteger[] parts) {
        return Arrays.stream(parts).reduce(BigInteger.ZERO, BigInteger::add);
    }

    World w = new World();
    World kept = null;
    String tape = "";
    List<List<Long>> sheets = new ArrayList<>(Arrays.asList(null, null, null, null));
    int[] bits = new int[4];
    int[] told = new int[7];

    long call(String name, long... a) {
        try {
            return act(name, a);
        } catch (Finding f) {
            told[f.index]++;
            return -1000000001L - f.index;
        }
    }

    private static void need(boolean holds, String finding) {
        if (!holds) {
            throw new Finding(finding);
        }
    }

    private static void within(long v, long least, long most) {
        need(v >= least && v <= most, "BEYOND");
    }

    private long act(String name, long[] a) {
        switch (name) {
            case "set": case "cellOf": case "vent": case "wall": return ground(name, a);
            case "farm": case "of": case "sow": case "as": case "build": case "coins": case "best": case "harvest":
                return farms(name, a);
            case "tenths": case "tenth": case "sees": case "burn": case "weight": case "likeliest": case "flee":
            case "dread":
                return mountain(name, a);
            case "flow": case "hit": case "least": case "turnsOn": case "save": return lava(name, a);
            case "feed": case "wipe": case "slope": return text(name, a);
            case "sheet": case "write": case "copy": case "lays": case "book": case "read": return sheets(name, a);
            case "image": case "undo": case "tear": case "count": case "status": return images(name, a);
            default: return months(name, a);
        }
    }

    private long ground(String name, long[] a) {
        switch (name) {
            case "set": {
                within(a[0], 0, 35);
                within(a[1], 0, 1);
                within(a[2], 0, 99);
                int[] row = a[1] == 0 ? w.height : w.age;
                long was = row[(int) a[0]];
                row[(int) a[0]] = (int) a[2];
                return was;
            }
            case "cellOf": {
                within(a[0], 0, 35);
                within(a[1], 0, 3);
                int c = (int) a[0];
                if (a[1] == 2) {
                    return w.farms.indexOf(w.on(c));
                }
                if (a[1] == 3) {
                    int set = 0;
                    int[] next = {c - 6, c + 1, c + 6, c - 1};
                    for (int way = 0; way < 4; way++) {
                        set += w.walls.contains(pair(c, next[way])) ? 1 << way : 0;
                    }
                    return set;
                }
                return a[1] == 0 ? w.height[c] : w.age[c];
            }
            case "vent": {
                within(a[0], 0, 35);
                int was = w.vent;
                w.vent = (int) a[0];
                return was;
            }
            default: {
                need(areBeside(a[0], a[1]), "BEYOND");
                List<Integer> wall = pair((int) a[0], (int) a[1]);
                return (a[2] == 1 ? w.walls.add(wall) : w.walls.remove(wall)) ? 1 : 0;
            }
        }
    }

    private Farm farm(long number) {
        within(number, 0, w.farms.size() - 1);
        return w.farms.get((int) number);
    }

    private long farms(String name, long[] a) {
        switch (name) {
            case "farm":
                within(a[0], 0, 5);
                within(a[1], 0, 35);
                within(a[2], 0, 5);
                need(w.on((int) a[1]) == null, "STATE");
                need(w.farms.size() < 12, "FULL");
                w.farms.add(new Farm((int) a[0], (int) a[1], (int) a[2]));
                return w.farms.size() - 1;
            case "of": {
                Farm f = farm(a[0]);
                within(a[1], 0, 5);
                int bears = f.burnt ? 0 : bears(f.kind, w.age[f.cell], w.ash);
                return new int[] {f.kind, f.cell, f.owner, f.coins, f.burnt ? 1 : 0, bears}[(int) a[1]];
            }
            case "sow": {
                Farm f = farm(a[0]);
                within(a[1], 0, 5);
                int was = f.kind;
                f.kind = (int) a[1];
                return was;
            }
            case "as": {
                Farm f = farm(a[0]);
                within(a[1], 0, 5);
                List<List<Integer>> above = List.of(List.of(0), List.of(0, 1), List.of(0, 2), List.of(0, 1, 3),
                    List.of(0, 4), List.of(0, 2, 5));
                need(above.get(f.kind).contains((int) a[1]), "KIND");
                return f.cell;
            }
            case "build": {
                Farm f = farm(a[0]);
                need(f.burnt, "STATE");
                f.burnt = false;
                return f.coins -= 20;
            }
            case "coins":
                within(a[0], 0, 5);
                return w.farms.stream().filter(f -> f.owner == a[0]).mapToInt(f -> f.coins).sum();
            case "best": {
                Farm f = farm(a[0]);
                return most(6, k -> bears(k, w.age[f.cell], w.ash));
            }
            default: {
                within(a[0], 0, 5);
                within(a[1], 0, 35);
                within(a[2], 0, 50);
                long sum = 0;
                for (int y = 0; y < a[2]; y++) {
                    sum += bears((int) a[0], Math.min(99, w.age[(int) a[1]] + y), Math.min(99, w.ash + y));
                }
                return sum;
            }
        }
    }

    /** The least of n numbers with the most. */
    private static int most(int n, ToIntFunction<Integer> by) {
        int best = n - 1;
        for (int k = n - 2; k >= 0; k--) {
            if (by.applyAsInt(k) >= by.applyAsInt(best)) {
                best = k;
            }
        }
        return best;
    }

    private long mountain(String name, long[] a) {
        switch (name) {
            case "tenths": {
                within(a[0], 0, 1);
                within(a[1], 0, 3);
                need(a[2] >= 0 && a[3] >= 0 && a[4] >= 0 && a[2] + a[3] + a[4] <= 10, "BEYOND");
                int[][] rows = a[0] == 0 ? w.chance : w.sign;
                int was = rows[(int) a[1]][0];
                rows[(int) a[1]] = new int[] {(int) a[2], (int) a[3], (int) a[4], (int) (10 - a[2] - a[3] - a[4])};
                return was;
            }
            case "tenth":
                within(a[0], 0, 1);
                within(a[1], 0, 3);
                within(a[2], 0, 3);
                return (a[0] == 0 ? w.chance : w.sign)[(int) a[1]][(int) a[2]];
            case "sees":
                within(a[0], 0, 3);
                need(w.diary.size() < 6, "FULL");
                w.diary.add((int) a[0]);
                return w.diary.size();
            case "burn": {
                int were = w.diary.size();
                w.diary.clear();
                return were;
            }
            case "weight": {
                within(a[0], -1, 3);
                BigInteger[] parts = w.weights(w.diary);
                return (a[0] == -1 ? sum(parts) : parts[(int) a[0]]).longValueExact();
            }
            case "likeliest": {
                BigInteger[] parts = w.weights(w.diary);
                need(sum(parts).signum() > 0, "NONE");
                BigInteger most = Arrays.stream(parts).max(BigInteger::compareTo).orElseThrow();
                return Arrays.asList(parts).indexOf(most);
            }
            case "flee": {
                within(a[0], 0, 10);
                BigInteger[] parts = w.weights(w.diary);
                need(sum(parts).signum() > 0, "NONE");
                BigInteger tenfold = parts[2].add(parts[3]).multiply(BigInteger.TEN);
                return tenfold.compareTo(sum(parts).multiply(BigInteger.valueOf(a[0]))) >= 0 ? 1 : 0;
            }
            default: {
                need(w.diary.size() < 6, "NONE");
                int worst = -1;
                BigInteger most = null;
                for (int s = 3; s >= 0; s--) {
                    List<Integer> more = new ArrayList<>(w.diary);
                    more.add(s);
                    BigInteger[] parts = w.weights(more);
                    if (sum(parts).signum() == 0) {
                        continue;
                    }
                    BigInteger share = parts[3].multiply(BigInteger.valueOf(1000)).divide(sum(parts));
                    if (most == null || share.compareTo(most) >= 0) {
                        most = share;
                        worst = s;
                    }
                }
                need(most != null, "NONE");
                return worst;
            }
        }
    }

    /** The farms hit by a volume, perhaps with one wall more. */
    private Set<Integer> hits(int volume, List<Integer> wall) {
        World asked = new World(w);
        if (wall != null) {
            asked.walls.add(wall);
        }
        Set<Integer> came = asked.lava(w.vent, volume);
        Set<Integer> hits = new TreeSet<>();
        for (int f = 0; f < w.farms.size(); f++) {
            if (!w.farms.get(f).burnt && came.contains(w.farms.get(f).cell)) {
                hits.add(f);
            }
        }
        return hits;
    }

    private static long bits(Set<Integer> set) {
        return set.stream().mapToLong(i -> 1L << i).sum();
    }

    private long lava(String name, long[] a) {
        switch (name) {
            case "flow":
                within(a[0], 0, 35);
                within(a[1], 1, 99);
                return bits(new World(w).lava((int) a[0], (int) a[1]));
            case "hit":
                within(a[0], 1, 99);
                return bits(hits((int) a[0], null));
            case "least": {
                Farm f = farm(a[0]);
                need(!f.burnt, "STATE");
                for (int v = 1; v <= 99; v++) {
                    if (hits(v, null).contains((int) a[0])) {
                        return v;
                    }
                }
                throw new Finding("NONE");
            }
            case "turnsOn": {
                need(areBeside(a[0], a[1]), "BEYOND");
                within(a[2], 1, 99);
                List<Integer> wall = pair((int) a[0], (int) a[1]);
                need(!w.walls.contains(wall), "STATE");
                Set<Integer> more = hits((int) a[2], wall);
                more.removeAll(hits((int) a[2], null));
                return bits(more);
            }
            default: {
                within(a[0], 1, 99);
                int fewest = hits((int) a[0], null).size();
                int number = -1;
                for (int one = 0; one < 36; one++) {
                    for (int other = one + 1; other < 36; other++) {
                        if (!areBeside(one, other) || w.walls.contains(pair(one, other))) {
                            continue;
                        }
                        int hits = hits((int) a[0], pair(one, other)).size();
                        if (hits < fewest) {
                            fewest = hits;
                            number = 100 * one + other;
                        }
                    }
                }
                need(number >= 0, "NONE");
                return number;
            }
        }
    }

    private long months(String name, long[] a) {
        switch (name) {
            case "volume": {
                within(a[0], 1, 99);
                int was = w.volume;
                w.volume = (int) a[0];
                return was;
            }
            case "pigs": {
                boolean was = w.pigs;
                w.pigs = a[0] == 1;
                return was == w.pigs ? 0 : 1;
            }
            case "months": {
                within(a[0], 1, 240);
                need(w.month + a[0] <= 9999, "STATE");
                int outs = w.outs;
                for (int i = 0; i < a[0]; i++) {
                    w.month();
                }
                return w.outs - outs;
            }
            case "seed": {
                int was = w.z;
                w.z = (int) a[0];
                return was;
            }
            case "now":
                within(a[0], 0, 7);
                return new int[] {w.month, w.state, w.vent, w.ash, w.volume, w.outs, w.fed, w.fedOuts}[(int) a[0]];
            case "doPigs": {
                need(w.fed != 0 && w.fed != w.month, "NONE");
                BigInteger without = BigInteger.valueOf(w.outs - w.fedOuts).multiply(BigInteger.valueOf(w.fed));
                BigInteger with = BigInteger.valueOf(w.fedOuts).multiply(BigInteger.valueOf(w.month - w.fed));
                return without.compareTo(with);
            }
            case "out": {
                need(w.month <= 9759, "STATE");
                World on = new World(w);
                for (int n = 1; n <= 240; n++) {
                    on.month();
                    if (on.outs > w.outs) {
                        return n;
                    }
                }
                throw new Finding("NONE");
            }
            case "on": {
                within(a[0], 0, 240);
                within(a[1], 0, 2);
                need(w.month + a[0] <= 9999, "STATE");
                World on = on((int) a[0], -1);
                if (a[1] == 0) {
                    Set<Integer> burnt = new TreeSet<>();
                    for (int f = 0; f < on.farms.size(); f++) {
                        if (on.farms.get(f).burnt) {
                            burnt.add(f);
                        }
                    }
                    return bits(burnt);
                }
                return a[1] == 1 ? on.coins() : on.state;
            }
            case "crop":
                within(a[0], 1, 240);
                need(w.month + a[0] <= 9999, "STATE");
                return most(6, k -> on((int) a[0], k).coins());
            default:
                throw new IllegalArgumentException(name);
        }
    }

    private World on(int n, int kind) {
        World on = new World(w);
        if (kind >= 0) {
            on.farms.forEach(f -> f.kind = kind);
        }
        for (int i = 0; i < n; i++) {
            on.month();
        }
        return on;
    }

    private long text(String name, long[] a) {
        switch (name) {
            case "feed": {
                within(a[1], 1, 4);
                need(tape.length() + a[1] <= 120, "FULL");
                String all = String.format("%08x", (int) a[0]);
                for (int i = 4 - (int) a[1]; i < 4; i++) {
                    tape += (char) Integer.parseInt(all.substring(2 * i, 2 * i + 2), 16);
                }
                return tape.length();
            }
            case "wipe": {
                int had = tape.length();
                tape = "";
                return had;
            }
            default: {
                World told = new World(w);
                try {
                    int items = new Reader(tape, told).items();
                    w = told;
                    return items;
                } catch (Fault f) {
                    return -1 - f.place;
                } finally {
                    tape = "";
                }
            }
        }
    }

    /** Reads a text: peek() is the next token ("" at the end, "?" for a byte that begins none). */
    static final class Reader {
        private final String text;
        private final World told;
        private int at = 0;

        Reader(String text, World told) {
            this.text = text;
            this.told = told;
        }

        private String peek() {
            while (at < text.length() && text.charAt(at) == ' ') {
                at++;
            }
            if (at == text.length()) {
                return "";
            }
            Matcher m = TOKEN.matcher(text);
            m.region(at, text.length());
            return m.lookingAt() ? m.group() : "?";
        }

        private String take(boolean may) {
            String token = peek();
            if (!may) {
                throw new Fault(at);
            }
            at += token.length();
            return token;
        }

        private boolean isNumber() {
            return peek().matches("[0-9]+");
        }

        private int number(int least, int most) {
            BigInteger v = isNumber() ? new BigInteger(peek()) : BigInteger.valueOf(-1);
            boolean may = v.compareTo(BigInteger.valueOf(least)) >= 0 && v.compareTo(BigInteger.valueOf(most)) <= 0;
            take(may && least <= most);
            return v.intValueExact();
        }

        int items() {
            int items = 0;
            do {
                item();
                items++;
                if (peek().isEmpty()) {
                    return items;
                }
                take(peek().equals(";"));
            } while (true);
        }

        private void item() {
            String word = peek();
            if (NAMES.contains(word)) {
                take(told.farms.size() < 12);
                take(peek().equals("at"));
                boolean isThere = isNumber() && peek().length() < 9 && told.on(Integer.parseInt(peek())) != null;
                int cell = isThere ? number(1, 0) : number(0, 35);
                int owner = 0;
                if (peek().equals("owner")) {
                    take(true);
                    owner = number(0, 5);
                }
                told.farms.add(new Farm(NAMES.indexOf(word), cell, owner));
                return;
            }
            take(List.of("wall", "height", "age", "vent", "chance", "sign", "sees").contains(word));
            switch (word) {
                case "wall": {
                    int one = number(0, 35);
                    peek();
                    int place = at;
                    int other = number(0, 35);
                    if (!areBeside(one, other)) {
                        throw new Fault(place);
                    }
                    told.walls.add(pair(one, other));
                    return;
                }
                case "height": case "age": {
                    int cell = number(0, 35);
                    (word.equals("age") ? told.age : told.height)[cell] = number(0, 99);
                    return;
                }
                case "vent":
                    told.vent = number(0, 35);
                    return;
                case "chance": case "sign": {
                    int state = number(0, 3);
                    int a = number(0, 10);
                    int b = number(0, 10 - a);
                    int c = number(0, 10 - a - b);
                    int d = number(10 - a - b - c, 10 - a - b - c);
                    (word.equals("sign") ? told.sign : told.chance)[state] = new int[] {a, b, c, d};
                    return;
                }
                default:
                    told.diary = new ArrayList<>();
                    do {
                        told.diary.add(told.diary.size() < 6 ? number(0, 3) : number(1, 0));
                    } while (isNumber());
                    return;
            }
        }
    }

    private List<Long> sheet(long s) {
        within(s, 0, 3);
        need(sheets.get((int) s) != null, "MISSING");
        return sheets.get((int) s);
    }

    private static long cut(long v, int bits) {
        return v << (64 - bits) >> (64 - bits);
    }

    private long sheets(String name, long[] a) {
        switch (name) {
            case "sheet": {
                within(a[0], 0, 3);
                need(List.of(0L, 8L, 16L, 64L).contains(a[1]), "BEYOND");
                need(a[2] >= 0, "SIZE");
                need(a[2] <= 40, "BEYOND");
                bits[(int) a[0]] = (int) a[1];
                List<Long> row = a[1] == 0 ? null : new ArrayList<>();
                for (int i = 0; row != null && i < a[2]; i++) {
                    row.add(0L);
                }
                sheets.set((int) a[0], row);
                return row == null ? 0 : row.size();
            }
            case "write": {
                List<Long> row = sheet(a[0]);
                within(a[1], 0, row.size() - 1);
                return row.set((int) a[1], cut(a[2], bits[(int) a[0]]));
            }
            case "copy": {
                within(a[0], 0, 3);
                within(a[2], 0, 3);
                List<Long> from = sheet(a[0]);
                List<Long> to = sheet(a[2]);
                need(bits[(int) a[0]] == bits[(int) a[2]], "KIND");
                need(a[1] >= 0 && a[3] >= 0 && a[4] >= 0, "BEYOND");
                need(a[1] + a[4] <= from.size() && a[3] + a[4] <= to.size(), "BEYOND");
                List<Long> were = new ArrayList<>(from);
                for (int i = 0; i < a[4]; i++) {
                    to.set((int) a[3] + i, were.get((int) a[1] + i));
                }
                return a[4];
            }
            case "lays": {
                List<Long> row = sheet(a[0]);
                int came = 0;
                for (int c = 0; c < 36; c++) {
                    if (c < row.size() && row.get(c) >= 0 && row.get(c) < 100) {
                        w.height[c] = row.get(c).intValue();
                        came++;
                    }
                }
                return came;
            }
            case "book": {
                List<Long> row = sheet(a[0]);
                int came = 0;
                for (Farm f : w.farms) {
                    if (came < row.size()) {
                        row.set(came++, cut(f.coins, bits[(int) a[0]]));
                    }
                }
                return came;
            }
            default: {
                List<Long> row = sheet(a[0]);
                need(w.month <= 9959, "STATE");
                for (int i = 0; i < row.size(); i++) {
                    if (row.get(i) != on(i, -1).state) {
                        return 1 + i;
                    }
                }
                return 0;
            }
        }
    }

    private long images(String name, long[] a) {
        switch (name) {
            case "image":
                kept = new World(w);
                return 1;
            case "undo":
                need(kept != null, "NONE");
                w = new World(kept);
                return w.farms.size();
            case "tear": {
                boolean was = kept != null;
                kept = null;
                return was ? 1 : 0;
            }
            case "count":
                within(a[0], 0, 5);
                return new long[] {w.farms.size(), w.farms.stream().filter(f -> f.burnt).count(), w.walls.size(),
                    tape.length(), w.diary.size(), w.z}[(int) a[0]];
            default:
                within(a[0], -1, 6);
                return a[0] == -1 ? Arrays.stream(told).sum() : told[(int) a[0]];
        }
    }
}
