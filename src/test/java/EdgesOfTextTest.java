/**
 * The boundary cases that the document names of THE TEXT of a SLOPE, phrase by phrase, and promises 36 to 38. A fault
 * answers -1 less its place.
 */
public final class EdgesOfTextTest {
    private static final Due due = new Due("EdgesOfTextTest");

    public static void main(String[] args) {
        tapeIsFull();
        tapeIsEmpty();
        bytesOfFeed();
        eachByteBehind();
        eachByteAhead();
        eachByteBetween();
        asLongAsCanBe();
        numbersUpTo999();
        blanksBetween();
        itemsAndSemicolons();
        namesOfKinds();
        cellsWithoutAFarm();
        ownersOfATextsFarm();
        wallsOfAText();
        levels();
        vents();
        tenthsOfAText();
        lastTenthJustThat();
        signsOfADiary();
        thirteenthFarm();
        endsTooEarly();
        faultChangesNothing();
        itemsComeToWhatThereIs();
        due.end();
    }

    private static void isSlope(String text, int want) {
        MountainFarms x = new MountainFarms();
        Due.feed(x, text);
        due.is("bytes of: " + text, x.count(3), text.length());
        due.is("slope: " + text, x.slope(), want);
        due.is("empty tape behind: " + text, x.count(3), 0);
        due.is("no finding for: " + text, x.status(-1), 0);
    }

    /** A text whose fault is where the second part begins. */
    private static void isFault(String good, String bad) {
        isSlope(good + bad, -1 - good.length());
    }

    /** "THE TAPE (bytes, at most 120)"; "THE TAPE gets the n lowest bytes ..: how many it has. .. FULL." */
    private static void tapeIsFull() {
        for (int n = 1; n <= 4; n++) {
            MountainFarms x = new MountainFarms();
            for (int had = 0; had + n <= 120; had += n) {
                due.is("feed: " + n + " behind " + had, x.feed(0x20202020, n), had + n);
            }
            due.is("feed: one more", x.feed(' ', 1), Due.FULL);
            due.is("feed: four more", x.feed(' ', 4), Due.FULL);
            due.is("feed: 120", x.count(3), 120);
            due.is("feed: all of them", x.slope(), -121);
            due.is("feed: there is room again", x.feed(' ', 4), 4);
        }
        MountainFarms x = new MountainFarms();
        for (int i = 0; i < 117; i++) {
            x.feed(' ', 1);
        }
        due.is("feed: 117 and 4", x.feed(0, 4), Due.FULL);
        due.is("feed: none of the four came", x.count(3), 117);
        due.is("feed: 117 and 3", x.feed(0, 3), 120);
        due.is("feed: two findings", x.status(1), 1);
    }

    /** "THE TAPE is empty: how many it had." */
    private static void tapeIsEmpty() {
        MountainFarms x = new MountainFarms();
        due.is("wipe: an empty one", x.wipe(), 0);
        Due.feed(x, "vent 7");
        due.is("wipe: six", x.wipe(), 6);
        due.is("wipe: again", x.wipe(), 0);
        due.is("wipe: empty", x.slope(), -1);
        for (int i = 0; i < 30; i++) {
            x.feed(0, 4);
        }
        due.is("wipe: a full one", x.wipe(), 120);
        due.is("wipe: room again", x.feed(0, 4), 4);
    }

    /** "the n lowest bytes of a number behind it, the highest of these first (n 1 to 4)". */
    private static void bytesOfFeed() {
        int[] wrong = {0, -1, 5, Integer.MIN_VALUE, Integer.MAX_VALUE};
        for (int n : wrong) {
            MountainFarms x = new MountainFarms();
            due.is("feed: " + n + " bytes", x.feed(0x3b3b3b3b, n), Due.BEYOND);
            due.is("feed: none came", x.count(3), 0);
        }
        MountainFarms x = new MountainFarms();
        x.feed(0x61676520, 4);
        x.feed(0x7f7f3320, 2);
        x.feed(0x7f7f7f39, 1);
        x.feed(0x7f203938, 1);
        due.is("feed: \"age 3 98\"", x.slope(), 1);
        due.is("feed: the highest first", x.cellOf(3, 1), 98);
        Due.feed(x, "vent ");
        x.feed(0xff203320, 3);
        due.is("feed: of a number below 0", x.slope(), 1);
        due.is("feed: of a number below 0", x.now(2), 3);
        x.feed(-1, 4);
        due.is("feed: bytes 255 begin no token", x.slope(), -1);
    }

    private static boolean isLetter(int b) {
        return b >= 'a' && b <= 'z';
    }

    /** "(.. a byte that begins no TOKEN ..)": each byte behind an item that could be all. */
    private static void eachByteBehind() {
        for (int b = 0; b < 256; b++) {
            MountainFarms x = new MountainFarms();
            Due.feed(x, "vent 3" + (char) b);
            int want = b == ' ' || b >= '0' && b <= '5' ? 1 : b >= '6' && b <= '9' ? -6 : b == ';' ? -8 : -7;
            due.is("byte " + b + " behind", x.slope(), want);
        }
    }

    private static void eachByteAhead() {
        for (int b = 0; b < 256; b++) {
            MountainFarms x = new MountainFarms();
            Due.feed(x, (char) b + "vent 3");
            due.is("byte " + b + " ahead", x.slope(), b == ' ' ? 1 : -1);
            Due.feed(x, "" + (char) b);
            due.is("byte " + b + " alone", x.slope(), b == ' ' ? -2 : -1);
        }
    }

    private static void eachByteBetween() {
        for (int b = 0; b < 256; b++) {
            MountainFarms x = new MountainFarms();
            Due.feed(x, "vent" + (char) b + "3");
            int want = b == ' ' || b >= '0' && b <= '3' ? 1 : isLetter(b) ? -1 : -5;
            due.is("byte " + b + " between word and number", x.slope(), want);
            Due.feed(x, "ve" + (char) b + "nt 3");
            due.is("byte " + b + " within a word", x.slope(), -1);
        }
    }

    /** "TOKENS, each as long as can be: WORDS (letters a to z), NUMBERS (digits ..), SIGN ;". */
    private static void asLongAsCanBe() {
        isSlope("vent3", 1);
        isSlope("farm at3owner4;age3 5", 2);
        isFault("", "farmat 3");
        isFault("farm ", "att 3");
        isFault("farm at 3 ", "ownerowner 3");
        isFault("vent ", "333");
        isFault("wall 01", "");
        isFault("age ", "99");
        isFault("sees 0 ", "012");
        isFault("vent 3", "v");
        isFault("vent 3;", ";");
        isFault("", "z".repeat(120));
        isFault("", "9".repeat(120));
    }

    /** "NUMBERS (digits, 999 at most)"; zeros ahead make none greater. */
    private static void numbersUpTo999() {
        isFault("age 0 ", "999");
        isFault("age 0 ", "1000");
        isFault("age 0 ", "4294967296");
        isFault("age 0 ", "4294967395");
        isFault("age 0 ", "18446744073709551617");
        isFault("age ", "4294967296 5");
        isFault("age ", "1000 5");
        isFault("age ", "2147483648 5");
        isFault("sees ", "1000");
        isFault("sees ", "256");
        isFault("chance ", "256 10 0 0 0");
        isFault("chance 0 ", "256 0 0 10");
        isSlope("age 0 000000000000000000000000000000000000000099", 1);
        isSlope("vent 0035", 1);
        isSlope("age 0 " + "0".repeat(112) + "99", 1);
    }

    /** "blanks may stand between". */
    private static void blanksBetween() {
        isSlope("   vent   3   ;   vent   4   ", 2);
        isSlope("vent 3;vent 4", 2);
        isSlope(" ".repeat(114) + "vent 3", 1);
        isSlope("vent" + " ".repeat(115) + "3", 1);
        isSlope("vent 3" + " ".repeat(114), 1);
        isFault("vent 1 ", "2");
        isFault("", "ve nt 3");
        isFault("     ", "5");
        isFault("vent   ", ";");
    }

    /** "TEXT: ITEM { ; ITEM }"; "how many ITEMS". */
    private static void itemsAndSemicolons() {
        isFault("", "");
        isFault("", ";");
        isFault("", ";vent 3");
        isFault("vent 3;", "");
        isFault("vent 3;  ", "");
        isFault("vent 3;", ";vent 4");
        isFault("vent 3 ", "vent 4");
        isFault("vent 3;vent 4", "v");
        isFault("sees 1;" + "age 0 1;".repeat(14), "");
        isSlope("sees 1" + ";age 0 1".repeat(14), 15);
        isSlope("sees 1" + ";sees 1".repeat(16), 17);
        isSlope("sees0" + ";sees0".repeat(19), 20);
    }

    /** "the name of a KIND (farm wheat vines rye goats oldvines), at, .." */
    private static void namesOfKinds() {
        String[] names = {"farm", "wheat", "vines", "rye", "goats", "oldvines"};
        for (int kind = 0; kind < 6; kind++) {
            MountainFarms x = new MountainFarms();
            due.is("kind: " + names[kind], Due.slope(x, names[kind] + " at 9"), 1);
            due.is("kind: of " + names[kind], x.of(0, 0), kind);
            isFault("", names[kind] + "s at 9");
            isFault("", names[kind].substring(1) + " at 9");
            isFault("", "x" + names[kind].substring(1) + " at 9");
            isFault("", names[kind].substring(0, names[kind].length() - 1) + " at 9");
            isFault("", names[kind].toUpperCase() + " at 9");
            isFault(names[kind] + " ", "9");
            isFault(names[kind] + " ", "in 9");
            isFault(names[kind] + " ", ";");
            isFault(names[kind] + " at ", "at 9");
            isFault(names[kind] + " at ", ";");
        }
        for (String word : new String[] {"at", "owner", "old", "lava", "pigs", "a", "volume", "ash"}) {
            isFault("", word + " 3");
        }
    }

    /** "a NUMBER (a CELL without a FARM, also without one told ahead in the TEXT)". */
    private static void cellsWithoutAFarm() {
        isSlope("farm at 0", 1);
        isSlope("farm at 35", 1);
        isFault("farm at ", "36");
        isFault("farm at ", "99");
        isFault("farm at 3;rye at ", "3");
        isFault("farm at 3;rye at 4;rye at ", "3 owner 1");
        isFault("farm at 3;rye at ", "003");
        MountainFarms x = new MountainFarms();
        x.farm(0, 0, 0);
        x.farm(0, 35, 0);
        due.is("there is one on 0", Due.slope(x, "rye at 0"), -8);
        due.is("there is one on 35", Due.slope(x, "rye at 35"), -8);
        Due.makeItComeOut(x);
        x.vent(35);
        x.months(1);
        due.is("it is burnt", x.of(1, 4), 1);
        due.is("there is a burnt one", Due.slope(x, "rye at 35"), -8);
        due.is("one told in a text with a fault isn't there", Due.slope(x, "rye at 9;x"), -10);
        due.is("so there is none", Due.slope(x, "rye at 9"), 1);
    }

    /** "perhaps owner and a NUMBER (0 to 5; 0 without): a new FARM". */
    private static void ownersOfATextsFarm() {
        MountainFarms x = new MountainFarms();
        due.is("owners", Due.slope(x, "farm at 0 owner 0;rye at 1 owner 5;rye at 2;rye at 3 owner 05"), 4);
        int[] owners = {0, 5, 0, 5};
        for (int farm = 0; farm < 4; farm++) {
            due.is("owner of " + farm, x.of(farm, 2), owners[farm]);
            due.is("coins of " + farm, x.of(farm, 3), 0);
        }
        isFault("farm at 0 owner ", "6");
        isFault("farm at 0 owner ", "x");
        isFault("farm at 0 owner ", ";");
        isFault("farm at 0 owner", "");
        isFault("farm at 0 ", "owners 1");
        isFault("farm at 0 ", "1");
        isFault("farm at 0 owner 1 ", "owner 1");
        isFault("farm at 0 owner 1 ", "1");
    }

    /** "wall, a NUMBER, a NUMBER (two CELLS BESIDE): a WALL". */
    private static void wallsOfAText() {
        isSlope("wall 0 1;wall 1 0;wall 35 29;wall 0 6", 4);
        isSlope("wall 29 35;wall 34 35;wall 35 34;wall 6 0", 4);
        isFault("wall ", "36 35");
        isFault("wall ", "x 35");
        isFault("wall 35 ", "36");
        isFault("wall 0 ", "0");
        isFault("wall 0 ", "2");
        isFault("wall 0 ", "7");
        isFault("wall 5 ", "6");
        isFault("wall 6 ", "5");
        isFault("wall 29 ", "30");
        isFault("wall 0 ", "12");
        isFault("wall 0 ", ";");
        isFault("wall 0 1 ", "2");
        MountainFarms x = new MountainFarms();
        x.wall(0, 1, true);
        due.is("a wall where there is one", Due.slope(x, "wall 1 0;wall 0 1;wall 14 20"), 3);
        due.is("walls", x.count(2), 2);
        due.is("walls of 14", x.cellOf(14, 3), 4);
        due.is("walls of 20", x.cellOf(20, 3), 1);
    }

    /** "height or age, a NUMBER (CELL), a NUMBER (0 to 99)". */
    private static void levels() {
        for (int what = 0; what < 2; what++) {
            String word = what == 0 ? "height " : "age ";
            MountainFarms x = new MountainFarms();
            due.is(word + "at the bounds", Due.slope(x, word + "0 0;" + word + "35 99"), 2);
            due.is(word + "of 0", x.cellOf(0, what), 0);
            due.is(word + "of 35", x.cellOf(35, what), 99);
            due.is("the other one of 0", x.cellOf(0, 1 - what), what == 0 ? 20 : 30);
            isFault(word, "36 0");
            isFault(word, "x");
            isFault(word + "35 ", "100");
            isFault(word + "35 ", "x");
            isFault(word + "35 ", ";");
            isFault(word + "35 99 ", "0");
        }
    }

    /** "vent and a NUMBER (CELL)". */
    private static void vents() {
        MountainFarms x = new MountainFarms();
        due.is("vent 0", Due.slope(x, "vent 0"), 1);
        due.is("vent is 0", x.now(2), 0);
        due.is("vent 35", Due.slope(x, "vent 0;vent 35"), 2);
        due.is("vent is 35", x.now(2), 35);
        due.is("heights stay", x.cellOf(35, 0), 20);
        isFault("vent ", "36");
        isFault("vent ", "x");
        isFault("vent ", ";");
        isFault("vent 3 ", "3");
    }

    /** "chance or sign, a NUMBER (STATE), four NUMBERS (tenths; each no more than what is left of 10, ..)". */
    private static void tenthsOfAText() {
        for (int what = 0; what < 2; what++) {
            String word = what == 0 ? "chance " : "sign ";
            MountainFarms x = new MountainFarms();
            due.is(word + "of the first and the last", Due.slope(x, word + "0 10 0 0 0;" + word + "3 0 1 2 7"), 2);
            int[] dues = {10, 0, 0, 0, 0, 1, 2, 7};
            for (int i = 0; i < 8; i++) {
                due.is(word + i, x.tenth(what, i / 4 * 3, i % 4), dues[i]);
            }
            due.is("the other one stays", x.tenth(1 - what, 0, 0), 7);
            isFault(word, "4 10 0 0 0");
            isFault(word, "x");
            isFault(word + "0 ", "11 0 0 0");
            isFault(word + "0 10 ", "1 0 0");
            isFault(word + "0 4 ", "7 0 0");
            isFault(word + "0 4 6 ", "1 0");
            isFault(word + "0 4 3 ", "4 0");
            isFault(word + "0 4 ", "; 3 0");
            isFault(word + "0 4 3 ", "x 3");
        }
    }

    /** "the last one just that". */
    private static void lastTenthJustThat() {
        for (String word : new String[] {"chance 2 ", "sign 2 "}) {
            isSlope(word + "4 3 2 1", 1);
            isSlope(word + "4 3 3 0", 1);
            isSlope(word + "0 0 0 10", 1);
            isFault(word + "4 3 2 ", "0");
            isFault(word + "4 3 2 ", "2");
            isFault(word + "4 3 3 ", "1");
            isFault(word + "0 0 0 ", "9");
            isFault(word + "0 0 0 ", "11");
            isFault(word + "4 3 2 ", ";");
            isFault(word + "4 3 2 ", "");
            isFault(word + "4 3 2 1 ", "0");
        }
    }

    /** "sees, one or more NUMBERS (SIGNS, 6 at most): DIARY is these." */
    private static void signsOfADiary() {
        isFault("sees", "");
        isFault("sees ", ";");
        isFault("sees ", "x");
        isFault("sees ", "4");
        isFault("sees 0 1 2 3 ", "4 0");
        isFault("sees 0 1 2 3 0 ", "4");
        isFault("sees 0 1 2 3 0 1 ", "2");
        isFault("sees 0 1 2 3 0 1 ", "4");
        isFault("sees 0 1 2 3 0 1 ", "x");
        isFault("sees 0 ", "x");
        MountainFarms x = new MountainFarms();
        due.is("one sign", Due.slope(x, "sees 3"), 1);
        due.is("one", x.count(4), 1);
        due.is("six signs", Due.slope(x, "sees 0 1 2 3 0 1"), 1);
        due.is("six", x.count(4), 6);
        due.is("the diary is full", x.sees(0), Due.FULL);
        due.is("two signs", Due.slope(x, "sees 0 1"), 1);
        due.is("these, not more", x.count(4), 2);
        due.is("these in their order", x.weight(1), 7 * 1680);
        due.is("two more", x.sees(0), 3);
    }

    /** "the name of a KIND for a 13th FARM: its own". */
    private static void thirteenthFarm() {
        MountainFarms x = new MountainFarms();
        for (int farm = 0; farm < 10; farm++) {
            x.farm(0, farm, 0);
        }
        due.is("13: told ahead", Due.slope(x, "rye at 20;rye at 21;rye at 22"), -21);
        due.is("13: none came", x.count(0), 10);
        due.is("13: the 12th may be", Due.slope(x, "rye at 20;rye at 21"), 2);
        String[] texts = {"goats", "goats at 30", "goats at 0", "goats x", "goats at 99", "oldvines at 3 owner 9"};
        for (String text : texts) {
            due.is("13: " + text, Due.slope(x, text), -1);
            due.is("13: behind an item, " + text, Due.slope(x, "vent 7; " + text), -9);
        }
        due.is("13: another word", Due.slope(x, "vent 7;goat at 3"), -8);
        due.is("13: no farm", Due.slope(x, "vent 8;sees 0"), 2);
        due.is("13: twelve", x.count(0), 12);
        due.is("13: the vent of the last text alone", x.now(2), 8);
    }

    /** "or how many bytes there are if it ends too early": behind each token but an item's last one. */
    private static void endsTooEarly() {
        String[] items = {"farm at 3 owner 4", "wall 0 1", "height 3 4", "age 3 4", "vent 3", "chance 0 1 2 3 4",
            "sign 0 1 2 3 4", "sees 1 2 3"};
        for (String item : items) {
            String text = "";
            for (String token : item.split(" ")) {
                text += (text.isEmpty() ? "" : " ") + token;
                boolean isWhole = text.equals(item) || text.equals("farm at 3") || text.startsWith("sees ");
                isSlope(text, isWhole ? 1 : -1 - text.length());
                isSlope(text + "  ", isWhole ? 1 : -3 - text.length());
                isSlope(text + ";", isWhole ? -2 - text.length() : -1 - text.length());
                isSlope("vent 3;" + text, isWhole ? 2 : -8 - text.length());
            }
        }
        isSlope(" ".repeat(120), -121);
        isSlope("vent 3;" + " ".repeat(113), -121);
        isSlope("sees" + " ".repeat(116), -121);
    }

    /** "With a FAULT: -1 less its place (nothing changes but that THE TAPE is empty; no finding)." */
    private static void faultChangesNothing() {
        String[] items = {"farm at 3 owner 4", "wall 0 1", "height 3 4", "age 3 4", "vent 3", "chance 0 1 2 3 4",
            "sign 0 1 2 3 4", "sees 1 2 3"};
        for (String item : items) {
            for (String bad : new String[] {";", ";x", " x", ";sees 1 2 4", ";chance 1 2 3 4 5", ";farm at 3;farm at 3"}) {
                MountainFarms x = new MountainFarms();
                x.sees(3);
                x.sees(0);
                MountainFarms twin = new MountainFarms();
                twin.sees(3);
                twin.sees(0);
                due.that("fault: " + item + bad, Due.slope(x, item + bad) < 0);
                due.is("fault: no finding", x.status(-1), 0);
                due.is("fault: the tape is empty", x.count(3), 0);
                due.that("fault: nothing changes, " + item + bad, Snapshot.of(x).equals(Snapshot.of(twin)));
            }
        }
    }

    /** "whose ITEMS come to what there is, and empty then: how many ITEMS." */
    private static void itemsComeToWhatThereIs() {
        MountainFarms x = new MountainFarms();
        x.farm(4, 30, 5);
        x.wall(30, 31, true);
        x.set(1, 0, 7);
        x.sees(2);
        x.volume(3);
        x.pigs(true);
        due.is("come: items", Due.slope(x, "rye at 31;wall 31 32;height 2 8;vent 31"), 4);
        due.is("come: the tape is empty", x.wipe(), 0);
        due.is("come: farms", x.count(0), 2);
        due.is("come: the first one stays", x.of(0, 0), 4);
        due.is("come: walls", x.cellOf(31, 3), 2 + 8);
        due.is("come: height told", x.cellOf(2, 0), 8);
        due.is("come: height that was", x.cellOf(1, 0), 7);
        due.is("come: diary", x.count(4), 1);
        due.is("come: volume", x.now(4), 3);
        due.is("come: pigs", x.pigs(true), 0);
        due.is("come: the last of two counts", Due.slope(x, "height 2 9;height 2 10;sees 1 1;sees 0"), 4);
        due.is("come: height", x.cellOf(2, 0), 10);
        due.is("come: diary", x.count(4), 1);
        due.is("come: diary", x.weight(0), 490);
        due.is("come: an empty tape has a fault", x.slope(), -1);
    }
}
