import java.util.ArrayList;
import java.util.HashMap;
import java.util.List;
import java.util.Map;
import java.util.function.IntBinaryOperator;

/** What the test classes share: answers held against what is due, texts told, a house seen as a whole. */
abstract class Checks {
    protected static final int NONE = SparesHouse.NONE;
    protected static final int FAR = Integer.MAX_VALUE;
    protected static final int DEEP = Integer.MIN_VALUE;
    protected static final long TO_6 = 2985984L;
    protected static final long TO_8 = 429981696L;

    /** What is done with a new object. */
    protected interface Recipe {
        void play(SparesHouse house);
    }

    /** One call and its answer. */
    protected interface Call {
        long of(SparesHouse house);
    }

    private static final Map<Integer, List<String>> SAID = new HashMap<>();
    private static String where = "";
    private static int passed = 0;
    private static int failed = 0;
    private static boolean held = true;

    /** The promise (or "Terms") and its sentence that the answers from here on are held against. */
    protected static void says(int number, String sentence) {
        seeThatItIsHeld();
        where = (number == Document.TERMS ? "Terms" : "promise " + number) + " (" + sentence + ")";
        held = false;
        SAID.computeIfAbsent(number, n -> new ArrayList<>()).addAll(Document.wordsOf(sentence));
    }

    private static void seeThatItIsHeld() {
        if (!held) {
            fail("no answer is held against it");
        }
    }

    /** All that says() told of a promise (or of "Terms"), in order, are the document's own words and all of them. */
    protected static void saidAll(int number) {
        List<String> said = SAID.getOrDefault(number, List.of());
        List<String> words = Document.words(number);
        for (int i = 0; i < Math.max(said.size(), words.size()); i++) {
            String mine = i < said.size() ? said.get(i) : "the end";
            String other = i < words.size() ? words.get(i) : "the end";
            if (!mine.equals(other)) {
                fail("of " + number + " is said up to word " + i + " of the document: " + mine + ", there " + other);
                return;
            }
        }
        pass();
    }

    protected static void due(String what, long got, long want) {
        if (got == want) {
            pass();
        } else {
            fail(what + " answered " + got + ", due is " + want);
        }
    }

    private static void pass() {
        passed++;
        held = true;
    }

    private static void fail(String how) {
        failed++;
        held = true;
        System.out.println(where + ": " + how);
    }

    /** The last line of a test class, and its exit code. */
    protected static void end(String name) {
        seeThatItIsHeld();
        System.out.println(name + ": " + passed + " passed, " + failed + " failed");
        if (failed != 0) {
            System.exit(1);
        }
    }

    // ---- texts

    /** Feeds a text of up to 400 bytes, the last twenty filled up and taken back. */
    protected static void feedText(SparesHouse house, String text) {
        int many = (text.length() + 19) / 20;
        for (int i = 0; i < many; i++) {
            int[] five = new int[5];
            for (int j = 0; j < 20; j++) {
                int at = i * 20 + j;
                five[j / 4] |= (at < text.length() ? text.charAt(at) & 255 : ' ') << (24 - j % 4 * 8);
            }
            house.feed(five[0], five[1], five[2], five[3], five[4]);
        }
        house.back(many * 20 - text.length());
    }

    protected static int tell(SparesHouse house, String text) {
        feedText(house, text);
        return house.text();
    }

    protected static SparesHouse told(String text) {
        SparesHouse house = new SparesHouse();
        int answer = tell(house, text);
        if (answer < 0) {
            due("text() of " + text, answer, 0);
        }
        return house;
    }

    protected static void faultAt(String text, int at) {
        due("text() of " + text, tell(new SparesHouse(), text), -4 - at);
    }

    protected static void read(String text, int cells) {
        due("text() of " + text, tell(new SparesHouse(), text), cells);
    }

    protected static String spelled(SparesHouse house) {
        StringBuilder text = new StringBuilder();
        int many = house.spell(NONE);
        for (int i = 0; i < many; i++) {
            text.append((char) house.spell(i));
        }
        return text.toString();
    }

    protected static void spells(String what, SparesHouse house, String want) {
        String got = spelled(house);
        if (got.equals(want)) {
            pass();
        } else {
            fail(what + " spells " + got + ", due is " + want);
        }
    }

    // ---- answers in a row

    /** The answers of one call to 0, 1, .., and NONE just below and above these. */
    protected static void row(String name, SparesHouse house, int[] want, IntCall call) {
        for (int i = 0; i < want.length; i++) {
            due(name + " of " + i, call.of(house, i), want[i]);
        }
        noneBeyond(name, house, want.length - 1, call);
    }

    /** NONE just below 0, just above the last one, and far off. */
    protected static void noneBeyond(String name, SparesHouse house, int last, IntCall call) {
        for (int i : new int[] {-1, last + 1, -2, last + 2, DEEP, FAR, last + 256, last + 65536}) {
            due(name + " of " + i, call.of(house, i), NONE);
        }
    }

    /** The ways under way: of each its kind, number, part, base, day. */
    protected static void waysAre(SparesHouse house, int[][] want) {
        rowsAre("way", want, house::way);
    }

    /** The wants: of each its base, part, day, and whether it was lent for. */
    protected static void wantsAre(SparesHouse house, int[][] want) {
        rowsAre("want", want, house::want);
    }

    /** The calls of a part: of each its base and day. */
    protected static void callsAre(SparesHouse house, int part, int[][] want) {
        rowsAre("call of part " + part + " ", want, (k, what) -> house.call(part, k, what));
    }

    /** The buys: of each its base, part, number, and the cost up to it. */
    protected static void buysAre(SparesHouse house, int[][] want) {
        rowsAre("buys", want, house::buys);
    }

    private static void rowsAre(String name, int[][] want, IntBinaryOperator call) {
        for (int k = 0; k < want.length; k++) {
            for (int what = 0; what < want[k].length; what++) {
                due(name + "(" + k + ", " + what + ")", call.applyAsInt(k, what), want[k][what]);
            }
        }
        due(name + "(" + want.length + ", 0)", call.applyAsInt(want.length, 0), NONE);
    }

    /** One call whose last number varies. */
    protected interface IntCall {
        long of(SparesHouse house, int i);
    }

    // ---- a house as a whole

    /** All that a small house tells, then its acts taken back one by one: some 250 calls. */
    protected static List<String> seen(SparesHouse house) {
        List<String> all = new ArrayList<>();
        for (int what = 0; what <= 9; what++) {
            all.add("count(" + what + ") = " + house.count(what));
        }
        for (int what = 0; what <= 10; what++) {
            all.add("played(" + what + ") = " + house.played(what));
        }
        seeParts(house, all);
        seeBases(house, all);
        seeRows(house, all);
        for (int i = 0; i < 13; i++) {
            all.add("undo() = " + house.undo() + " to day " + house.played(0) + ", broken " + house.played(1)
                + ", begun " + house.count(9) + ", lacks " + house.lacks());
        }
        return all;
    }

    private static void seeParts(SparesHouse house, List<String> all) {
        for (int part = 0; part < house.count(0); part++) {
            for (int what = 0; what <= 8; what++) {
                all.add("part(" + part + ", " + what + ") = " + house.part(part, what));
            }
            for (int k = 0; k < house.part(part, 5); k++) {
                all.add("call " + k + " of part " + part + " = " + house.call(part, k, 0) + " " + house.call(part, k, 1));
            }
        }
    }

    private static void seeBases(SparesHouse house, List<String> all) {
        for (int base = 0; base < house.count(1); base++) {
            for (int what = 0; what <= 4; what++) {
                all.add("base(" + base + ", " + what + ") = " + house.base(base, what));
            }
            for (int part = 0; part < house.count(0); part++) {
                for (int what = 0; what <= 8; what++) {
                    all.add("cell(" + base + ", " + part + ", " + what + ") = " + house.cell(base, part, what));
                }
            }
        }
    }

    private static void seeRows(SparesHouse house, List<String> all) {
        int wants = house.played(3);
        for (int k = 0; k < wants; k++) {
            all.add("want " + k + " = " + house.want(k, 0) + " " + house.want(k, 1) + " " + house.want(k, 2) + " "
                + house.want(k, 3));
        }
        int ways = house.played(9);
        for (int k = 0; k < ways; k++) {
            all.add("way " + k + " = " + house.way(k, 0) + " " + house.way(k, 1) + " " + house.way(k, 2) + " "
                + house.way(k, 3) + " " + house.way(k, 4));
        }
        int waits = house.played(10);
        for (int k = 0; k < waits; k++) {
            all.add("waits(" + k + ") = " + house.waits(k));
        }
    }

    private static SparesHouse made(Recipe recipe) {
        SparesHouse house = new SparesHouse();
        recipe.play(house);
        return house;
    }

    private static void same(String what, List<String> got, List<String> want) {
        for (int i = 0; i < Math.max(got.size(), want.size()); i++) {
            String mine = i < got.size() ? got.get(i) : "nothing more";
            String other = i < want.size() ? want.get(i) : "nothing more";
            if (!mine.equals(other)) {
                fail("behind " + what + " " + mine + ", ahead of it " + other);
                return;
            }
        }
        pass();
    }

    /** The call answers so, and the house is as one on which it was not called. */
    protected static void changesNothing(String what, Recipe recipe, Call call, long want) {
        SparesHouse house = made(recipe);
        due(what, call.of(house), want);
        same(what, seen(house), seen(made(recipe)));
    }

    /** The act answers so, counts as an act (behind a recipe of fewer than twelve), and undo takes all of it back. */
    protected static void isAnAct(String what, Recipe recipe, Call call, long want) {
        SparesHouse house = made(recipe);
        int acts = house.count(5);
        due(what, call.of(house), want);
        due("count(5) behind " + what, house.count(5), acts + 1);
        due("undo() of " + what, house.undo(), acts);
        same("undo() of " + what, seen(house), seen(made(recipe)));
    }

    /** A house in which pieces of all kinds are under way, wait, are wanted and called for: eight acts. */
    protected static void busy(SparesHouse house) {
        tell(house, "keep 1;rule 1;part 4 0 9;part 7 3 2;base 2;base 1;"
            + "cell 0 0 3 5 1;cell 0 1 2 4 0;cell 1 0 2 3 2;cell 1 1 8 12 9;works 0 1;");
        house.breaks(0, 0);
        house.breaks(0, 0);
        house.breaks(0, 0);
        house.breaks(0, 1);
        house.pass(1);
        house.pass(1);
        house.breaks(0, 0);
        house.breaks(0, 0);
        feedText(house, "keep 2;");
    }

    /** Days go by up to one of the last thirty; some 333 calls. */
    protected static void goTo(SparesHouse house, int day) {
        for (int i = 0; i < 332; i++) {
            house.pass(30);
        }
        if (day - 9960 > 30) {
            house.pass(30);
        }
        if (day > house.played(0)) {
            house.pass(day - house.played(0));
        }
        due("played(0)", house.played(0), day);
    }
}
