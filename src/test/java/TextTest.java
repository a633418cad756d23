/** Promises 36 to 38: the tape and the text of a slope. */
public final class TextTest {
    private static final Due due = new Due("TextTest");

    public static void main(String[] args) {
        feed();
        wipe();
        farms();
        ground();
        mountain();
        tokens();
        tooEarly();
        otherWords();
        otherNumbers();
        otherTenths();
        otherSigns();
        farmsThere();
        thirteenthFarm();
        faultChangesNothing();
        longText();
        shorterText();
        due.end();
    }

    private static void isSlope(String text, int want) {
        MountainFarms x = new MountainFarms();
        due.is("slope: " + text, Due.slope(x, text), want);
        due.is("slope: tape is empty behind " + text, x.count(3), 0);
        due.is("slope: no finding for " + text, x.status(-1), 0);
    }

    private static void feed() {
        MountainFarms x = new MountainFarms();
        due.is("feed: none", x.feed(7, 0), Due.BEYOND);
        due.is("feed: five", x.feed(7, 5), Due.BEYOND);
        due.is("feed: -1", x.feed(7, -1), Due.BEYOND);
        due.is("feed: vent", x.feed(0x76656e74, 4), 4);
        due.is("feed: the lowest byte", x.feed(0x39393920, 1), 5);
        due.is("feed: the two lowest", x.feed(0x39393335, 2), 7);
        due.is("feed: the three lowest", x.feed(0x39203b76, 3), 10);
        due.is("feed: ent ", x.feed(0x656e7420, 4), 14);
        due.is("feed: 3", x.feed('3', 1), 15);
        due.is("feed: as a text", x.slope(), 2);
        due.is("feed: as a text", x.now(2), 3);
        for (int i = 0; i < 29; i++) {
            due.is("feed: more", x.feed(-1, 4), 4 * i + 4);
        }
        due.is("feed: 118", x.feed(0, 2), 118);
        due.is("feed: FULL", x.feed(0, 3), Due.FULL);
        due.is("feed: none of them came", x.count(3), 118);
        due.is("feed: 120", x.feed(0, 2), 120);
        due.is("feed: FULL", x.feed(0, 1), Due.FULL);
        due.is("feed: BEYOND ahead of FULL", x.feed(0, 5), Due.BEYOND);
    }

    private static void wipe() {
        MountainFarms x = new MountainFarms();
        Due.feed(x, "vent 3");
        due.is("wipe: had", x.wipe(), 6);
        due.is("wipe: none", x.wipe(), 0);
        due.is("wipe: count", x.count(3), 0);
        Due.feed(x, "age 0 7");
        due.is("wipe: only what came behind it", x.slope(), 1);
        due.is("wipe: the vent stays", x.now(2), 14);
    }

    private static void farms() {
        MountainFarms x = new MountainFarms();
        due.is("slope: kinds", Due.slope(x, "farm at 0;wheat at 1 owner 5;vines at 2;rye at 35 owner 0;goats at 4"), 5);
        due.is("slope: more", Due.slope(x, " oldvines at 5 owner 3 ; farm at 6 "), 2);
        int[] kinds = {0, 1, 2, 3, 4, 5, 0};
        int[] cells = {0, 1, 2, 35, 4, 5, 6};
        int[] owners = {0, 5, 0, 0, 0, 3, 0};
        due.is("slope: farms", x.count(0), 7);
        for (int farm = 0; farm < 7; farm++) {
            due.is("slope: kind of " + farm, x.of(farm, 0), kinds[farm]);
            due.is("slope: cell of " + farm, x.of(farm, 1), cells[farm]);
            due.is("slope: owner of " + farm, x.of(farm, 2), owners[farm]);
            due.is("slope: coins of " + farm, x.of(farm, 3), 0);
            due.is("slope: burnt " + farm, x.of(farm, 4), 0);
        }
    }

    private static void ground() {
        MountainFarms x = new MountainFarms();
        x.wall(0, 1, true);
        due.is("slope: ground", Due.slope(x, "wall 0 1;wall 9 8;wall 9 15;height 0 99;height 35 0;age 7 0;age 8 99;vent 35"), 8);
        due.is("slope: walls", x.count(2), 3);
        due.is("slope: walls of 9", x.cellOf(9, 3), 8 + 4);
        due.is("slope: walls of 8", x.cellOf(8, 3), 2);
        due.is("slope: walls of 0", x.cellOf(0, 3), 2);
        due.is("slope: height", x.cellOf(0, 0), 99);
        due.is("slope: height", x.cellOf(35, 0), 0);
        due.is("slope: age", x.cellOf(7, 1), 0);
        due.is("slope: age", x.cellOf(8, 1), 99);
        due.is("slope: other ages", x.cellOf(0, 1), 20);
        due.is("slope: vent", x.now(2), 35);
        due.is("slope: the later item counts", Due.slope(x, "vent 3;vent 4;vent 0"), 3);
        due.is("slope: vent", x.now(2), 0);
    }

    private static void mountain() {
        MountainFarms x = new MountainFarms();
        x.sees(3);
        due.is("slope: mountain", Due.slope(x, "chance 0 1 2 3 4;chance 3 10 0 0 0;sign 1 0 0 0 10;sees 0 1 2 3 0 1"), 4);
        int[] chances = {1, 2, 3, 4};
        for (int i = 0; i < 4; i++) {
            due.is("slope: chance", x.tenth(0, 0, i), chances[i]);
        }
        due.is("slope: chance", x.tenth(0, 3, 0), 10);
        due.is("slope: chance", x.tenth(0, 3, 3), 0);
        due.is("slope: sign", x.tenth(1, 1, 3), 10);
        due.is("slope: sign", x.tenth(1, 1, 1), 0);
        due.is("slope: the other rows stay", x.tenth(0, 1, 1), 7);
        due.is("slope: diary", x.count(4), 6);
        due.is("slope: a shorter diary", Due.slope(x, "sees 3 2 ; sees 1"), 2);
        due.is("slope: diary", x.count(4), 1);
        MountainFarms y = new MountainFarms();
        Due.slope(y, "sees 0 1 3");
        due.is("slope: diary in its order", y.weight(3), 1890);
        due.is("slope: diary in its order", y.weight(-1), 154420);
    }

    private static void tokens() {
        isSlope("vent3", 1);
        isSlope("  vent   3  ;vent 4", 2);
        isSlope("farm at 1owner 2", 1);
        isSlope("farm at1owner2;age0 3", 2);
        isSlope("wall 0 000000000000000000000000000006", 1);
        isSlope("farmat 1", -1);
        isSlope("farm at 1 owner2x", -17);
        isSlope("Farm at 1", -1);
        isSlope("vent\t3", -5);
        isSlope("vent 3\n", -7);
        isSlope("vent 3,vent 4", -7);
        isSlope("vent -3", -6);
        isSlope("vent 3 $", -8);
        isSlope("$", -1);
        isSlope("{", -1);
        isSlope("`", -1);
        isSlope("vent 3:", -7);
        isSlope("vent 3/", -7);
        isSlope("\u00e9vent 3", -1);
        isSlope("vent\u0000", -5);
        isSlope("vent 3 ;; vent 4", -9);
        isSlope("; vent 4", -1);
        isSlope("age 0 9999999999999999999999999999999", -7);
        isSlope("age 4294967296 5", -5);
        isSlope("age 1 4294967297", -7);
    }

    private static void tooEarly() {
        isSlope("", -1);
        isSlope("   ", -4);
        String[] texts = {"farm", "farm at", "farm at ", "farm at 1;", "farm at 1 ; ", "farm at 1 owner", "wall", "wall 0",
            "height", "height 3", "age", "age 3", "vent", "chance", "chance 0", "chance 0 1", "chance 0 1 2",
            "chance 0 1 2 3", "chance 0 10 0 0", "sign", "sign 3 1 1 1", "sees", "sees  "};
        for (String text : texts) {
            isSlope(text, -1 - text.length());
        }
    }

    private static void otherWords() {
        isSlope("at 1", -1);
        isSlope("owner 1", -1);
        isSlope("fire at 1", -1);
        isSlope("far at 1", -1);
        isSlope("xarm at 1", -1);
        isSlope("went 1", -1);
        isSlope("ventz 1", -1);
        isSlope("vena 1", -1);
        isSlope("farm xt 1", -6);
        isSlope("farms at 1", -1);
        isSlope("old vines at 1", -1);
        isSlope("5", -1);
        isSlope("farm 1", -6);
        isSlope("farm on 1", -6);
        isSlope("farm ; at 1", -6);
        isSlope("farm at owner", -9);
        isSlope("farm at ;", -9);
        isSlope("farm at 1 2", -11);
        isSlope("farm at 1 at", -11);
        isSlope("farm at 1 farm at 2", -11);
        isSlope("farm at 1 owner x", -17);
        isSlope("farm at 1 owner ;", -17);
        isSlope("farm at 1 owner 1 owner 2", -19);
        isSlope("vent at 3", -6);
        isSlope("vent 3 4", -8);
        isSlope("wall 0 1 2", -10);
        isSlope("height 0 1 2", -12);
        isSlope("height 0;", -9);
        isSlope("wall 0 ;", -8);
        isSlope("vent 3;vent 4;vet 5", -15);
    }

    private static void otherNumbers() {
        isSlope("farm at 35", 1);
        isSlope("farm at 36", -9);
        isSlope("farm at 1 owner 5", 1);
        isSlope("farm at 1 owner 6", -17);
        isSlope("wall 35 34", 1);
        isSlope("wall 34 35", 1);
        isSlope("wall 6 0", 1);
        isSlope("wall 0 1", 1);
        isSlope("wall 0 6", 1);
        isSlope("wall 36 35", -6);
        isSlope("wall 35 36", -9);
        isSlope("wall 5 6", -8);
        isSlope("wall 0 0", -8);
        isSlope("wall 0 7", -8);
        isSlope("wall 0 2", -8);
        isSlope("height 36 0", -8);
        isSlope("height 35 99", 1);
        isSlope("height 35 100", -11);
        isSlope("age 36 0", -5);
        isSlope("age 35 99", 1);
        isSlope("age 35 100", -8);
        isSlope("age 35 999", -8);
        isSlope("age 35 1000", -8);
        isSlope("vent 35", 1);
        isSlope("vent 36", -6);
    }

    private static void otherTenths() {
        isSlope("chance 3 0 0 0 10", 1);
        isSlope("chance 4 0 0 0 10", -8);
        isSlope("chance 0 11 0 0 0", -10);
        isSlope("chance 0 5 6 0 0", -12);
        isSlope("chance 0 10 0 1 0", -15);
        isSlope("chance 0 1 2 8 0", -14);
        isSlope("chance 0 1 2 3 5", -16);
        isSlope("chance 0 1 2 3 3", -16);
        isSlope("chance 0 1 2 3 4 0", -18);
        isSlope("chance 0 1 2 ; 4", -14);
        isSlope("sign 3 0 0 0 10", 1);
        isSlope("sign 4 0 0 0 10", -6);
        isSlope("sign 2 5 5 0 1", -14);
        isSlope("sign 2 5 5 1 0", -12);
    }

    private static void otherSigns() {
        isSlope("sees 3", 1);
        isSlope("sees 4", -6);
        isSlope("sees 0 1 2 4", -12);
        isSlope("sees ;", -6);
        isSlope("sees x", -6);
        isSlope("sees 0 x", -8);
        isSlope("sees 0 1 2 3 0 1", 1);
        isSlope("sees 0 1 2 3 0 1 2", -18);
        isSlope("sees 0 1 2 3 0 1 9", -18);
        isSlope("sees 0 1 2 3 0 4 2", -16);
    }

    private static void farmsThere() {
        isSlope("farm at 3;rye at 3", -18);
        isSlope("farm at 3;rye at 4;goats at 3", -29);
        MountainFarms x = new MountainFarms();
        x.farm(0, 3, 0);
        due.is("slope: there is one", Due.slope(x, "rye at 3"), -8);
        due.is("slope: there is none", Due.slope(x, "rye at 4"), 1);
        due.is("slope: there is one from a text", Due.slope(x, "goats at 4"), -10);
    }

    private static void thirteenthFarm() {
        MountainFarms x = new MountainFarms();
        for (int i = 0; i < 11; i++) {
            x.farm(0, i, 0);
        }
        due.is("slope: a 13th farm", Due.slope(x, "farm at 20; rye at 21"), -13);
        due.is("slope: none came", x.count(0), 11);
        due.is("slope: the 12th one", Due.slope(x, "farm at 20; vent 0"), 2);
        due.is("slope: a 13th farm, its name first", Due.slope(x, "vent 3;  farm"), -10);
        due.is("slope: no other word", Due.slope(x, "fern at 21"), -1);
        due.is("slope: other items", Due.slope(x, "vent 3"), 1);
    }

    private static void faultChangesNothing() {
        MountainFarms x = new MountainFarms();
        x.sees(2);
        due.is("slope: fault at the end", Due.slope(x, "farm at 0;wall 0 1;height 0 1;age 0 1;vent 1;sees 0;chance 0 0 0 0 10;sign 0 0 0 0 10;x"), -87);
        due.is("fault: farms", x.count(0), 0);
        due.is("fault: walls", x.count(2), 0);
        due.is("fault: height", x.cellOf(0, 0), 30);
        due.is("fault: age", x.cellOf(0, 1), 20);
        due.is("fault: vent", x.now(2), 14);
        due.is("fault: diary", x.count(4), 1);
        due.is("fault: weight", x.weight(0), 70);
        due.is("fault: chance", x.tenth(0, 0, 0), 7);
        due.is("fault: sign", x.tenth(1, 0, 0), 7);
        due.is("fault: tape", x.count(3), 0);
        due.is("fault: no finding", x.status(-1), 0);
        due.is("fault: inside the diary", Due.slope(x, "sees 0 0 0 4"), -12);
        due.is("fault: diary", x.count(4), 1);
        due.is("fault: diary", x.weight(0), 70);
    }

    /** What an earlier text left behind the end isn't read. */
    private static void shorterText() {
        MountainFarms x = new MountainFarms();
        due.is("slope: longer", Due.slope(x, "vent 35"), 1);
        due.is("slope: shorter by a digit", Due.slope(x, "vent 3"), 1);
        due.is("slope: the digit is gone", x.now(2), 3);
        due.is("slope: shorter by letters", Due.slope(x, "ven"), -1);
        due.is("slope: shorter by a number", Due.slope(x, "vent"), -5);
        Due.feed(x, "vent 2 vent 2");
        x.wipe();
        due.is("slope: behind wipe()", Due.slope(x, "vent 2"), 1);
        isSlope("7".repeat(120), -1);
        isSlope("z".repeat(120), -1);
        isSlope("age 0 " + "0".repeat(113) + "9", 1);
    }

    private static void longText() {
        StringBuilder text = new StringBuilder("vent 0");
        for (int i = 0; i < 16; i++) {
            text.append(";vent ").append(i % 10);
        }
        isSlope(text + " ", 17);
        isSlope(text + ";", -1 - text.length() - 1);
        MountainFarms x = new MountainFarms();
        Due.feed(x, text + " ");
        due.is("slope: as long as can be", x.count(3), 119);
        x.feed(';', 1);
        due.is("slope: as long as can be", x.slope(), -121);
        Due.feed(x, text.toString());
        x.feed(0x3b3b, 2);
        due.is("slope: fault in the last byte", x.slope(), -120);
    }
}
