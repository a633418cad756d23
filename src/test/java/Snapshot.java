import java.util.ArrayList;
import java.util.List;

/**
 * All that can be asked of an object, status aside. It asks some 300 calls and puts its own traces on the object: look
 * once, at the end, and compare with a twin's snapshot.
 */
final class Snapshot {
    private Snapshot() {
    }

    static List<Long> of(MountainFarms x) {
        List<Long> all = new ArrayList<>();
        for (int cell = 0; cell < 36; cell++) {
            for (int what = 0; what < 4; what++) {
                all.add((long) x.cellOf(cell, what));
            }
        }
        for (int farm = 0; farm < x.count(0); farm++) {
            for (int what = 0; what < 6; what++) {
                all.add((long) x.of(farm, what));
            }
        }
        mountain(x, all);
        for (int s = 0; s < 4; s++) {
            for (int i = 0; i < 4; i++) {
                all.add(x.write(s, i, 0));
            }
        }
        kept(x, all);
        return all;
    }

    private static void mountain(MountainFarms x, List<Long> all) {
        for (int i = 0; i < 32; i++) {
            all.add((long) x.tenth(i / 16, i / 4 % 4, i % 4));
        }
        for (int what = 0; what < 8; what++) {
            all.add((long) x.now(what));
        }
        for (int what = 0; what < 6; what++) {
            all.add((long) x.count(what));
        }
        for (int state = -1; state < 4; state++) {
            all.add(x.weight(state));
        }
        all.add((long) x.pigs(true));
    }

    /** What the tape and the image hold is seen when they come to what there is. */
    private static void kept(MountainFarms x, List<Long> all) {
        all.add((long) x.slope());
        all.add((long) x.now(2));
        all.add((long) x.undo());
        for (int what = 0; what < 8; what++) {
            all.add((long) x.now(what));
        }
        for (int what = 0; what < 6; what++) {
            all.add((long) x.count(what));
        }
        all.add((long) x.tear());
    }
}
