/** Boundary cases of what odds tell: promises 26 to 34. */
public final class OddsBoundsTests extends Checks {
    private static final int[] BEYOND = {-1, -2, 3, 4, 8, DEEP, FAR, 1 << 30};
    private static final String NINE = "part 11 0 1;".repeat(3) + "base 1;".repeat(3);
    // One spare of part 1 comes first by gain, then eight of part 0, then part 1's second one.
    private static final String DEAR = "part 30 0 1;part 1 0 1;base 1;cell 0 0 8 12 0;cell 0 1 2 1 0;";

    public static void main(String[] args) {
        outOfAll();
        outBounds();
        lackOfAll();
        lackBounds();
        lacksByStocks();
        sureOfAll();
        sureBounds();
        buysOfAll();
        buysBounds();
        buysAboveNothing();
        buysByFractions();
        boughtBounds();
        boughtTillTheNextCostsMore();
        lacksByBounds();
        lacksByBoth();
        bestBounds();
        bestCheapest();
        bestFirstAsARow();
        bestOfNine();
        purseForBounds();
        purseForEdges();
        stocksAndDaysDoNotMatter();
        weighingChangesNothing();
        end("OddsBoundsTests");
    }

    private static long power(long of, int times) {
        long all = 1;
        for (int i = 0; i < times; i++) {
            all *= of;
        }
        return all;
    }

    /** In how many of 12 to the 8th ways x are out. */
    private static long ways(int units, int odds, int x) {
        long chosen = 1;
        for (int i = 0; i < x; i++) {
            chosen = chosen * (units - i) / (i + 1);
        }
        return x > units ? 0 : chosen * power(odds, x) * power(12 - odds, units - x) * power(12, 8 - units);
    }

    private static long lacking(int units, int odds, int s) {
        long all = 0;
        for (int x = s + 1; x <= 8; x++) {
            all += (x - s) * ways(units, odds, x);
        }
        return all;
    }

    private static SparesHouse one(int units, int odds) {
        return told("part 1 0 1;base 1;cell 0 0 " + units + " " + odds + " 0;");
    }

    /** Nine cells of the same units and odds. */
    private static String nine(int price, int units, int odds) {
        StringBuilder text = new StringBuilder(("part " + price + " 0 1;").repeat(3) + "base 1;".repeat(3));
        for (int i = 0; i < 9; i++) {
            text.append("cell " + i / 3 + " " + i % 3 + " " + units + " " + odds + " 0;");
        }
        return text.toString();
    }

    // ---- promises 26 to 29

    private static void outOfAll() {
        says(26, "each of UNITS is out in ODDS of 12 ways; those beyond UNITS are never out: of 12 to the 8th");
        for (int units = 0; units <= 8; units++) {
            for (int odds = 0; odds <= 12; odds++) {
                SparesHouse house = one(units, odds);
                long all = 0;
                for (int x = 0; x <= 8; x++) {
                    long out = house.out(0, 0, x);
                    due("out(0, 0, " + x + ") by UNITS " + units + ", ODDS " + odds, out, ways(units, odds, x));
                    all += out;
                }
                due("all ways by UNITS " + units + ", ODDS " + odds, all, TO_8);
            }
        }
    }

    private static void outBounds() {
        says(26, "just x (0 .. 8). NONE: no such ones");
        SparesHouse house = told(nine(1, 8, 12));
        due("out(2, 2, 8)", house.out(2, 2, 8), TO_8);
        due("out(2, 2, 0)", house.out(2, 2, 0), 0);
        noneBeyond("out(0, 0, x)", house, 8, (h, i) -> h.out(0, 0, i));
        noneBeyond("out(2, 2, x)", house, 8, (h, i) -> h.out(2, 2, i));
        for (int none : BEYOND) {
            due("out(" + none + ", 0, 0)", house.out(none, 0, 0), NONE);
            due("out(0, " + none + ", 0)", house.out(0, none, 0), NONE);
        }
        due("out(1, -4, 8)", house.out(1, -4, 8), NONE);
        due("a part, no base", told("part 1 0 1;").out(0, 0, 0), NONE);
        due("no units: none is out", one(0, 12).out(0, 0, 0), TO_8);
        due("no odds: none is out", one(8, 0).out(0, 0, 0), TO_8);
    }

    private static void lackOfAll() {
        says(27, "in each of these ways pieces out above s, all together");
        for (int units = 0; units <= 8; units++) {
            for (int odds = 0; odds <= 12; odds++) {
                SparesHouse house = one(units, odds);
                for (int s = 0; s <= 9; s++) {
                    due("lack(0, 0, " + s + ") by UNITS " + units + ", ODDS " + odds, house.lack(0, 0, s),
                        lacking(units, odds, s));
                }
            }
        }
    }

    private static void lackBounds() {
        says(27, "by s (0 .. 9) spares. NONE: no such ones");
        SparesHouse house = told(nine(1, 8, 12));
        due("lack(2, 2, 0)", house.lack(2, 2, 0), 8 * TO_8);
        due("lack(2, 2, 7)", house.lack(2, 2, 7), TO_8);
        due("lack(2, 2, 8)", house.lack(2, 2, 8), 0);
        due("lack(2, 2, 9)", house.lack(2, 2, 9), 0);
        noneBeyond("lack(2, 2, s)", house, 9, (h, i) -> h.lack(2, 2, i));
        noneBeyond("lack(0, 0, s)", house, 9, (h, i) -> h.lack(0, 0, i));
        for (int none : BEYOND) {
            due("lack(" + none + ", 0, 0)", house.lack(none, 0, 0), NONE);
            due("lack(0, " + none + ", 0)", house.lack(0, none, 0), NONE);
        }
        due("lack(1, -4, 0)", house.lack(1, -4, 0), NONE);
    }

    private static void lacksByStocks() {
        says(28, "LACKS by STOCKS of all CELLS (the works' do not count)");
        due("lacks() of none", new SparesHouse().lacks(), 0);
        due("lacks() of most", told(nine(1, 8, 12)).lacks(), 72 * TO_8);
        due("the works' STOCK", told(nine(1, 8, 12) + "works 0 9;works 1 9;works 2 9;").lacks(), 72 * TO_8);
        SparesHouse house = told("part 1 0 1;base 1;base 1;cell 0 0 8 12 7;cell 1 0 8 12 9;");
        due("lacks() by 7 and 9", house.lacks(), TO_8);
        house.buy(0, 0);
        due("lacks() by 8 and 9", house.lacks(), 0);
        house.buy(0, 0);
        due("lacks() by 9 and 9", house.lacks(), 0);
        for (int s = 8; s >= 0; s--) {
            house.sell(0, 0);
            due("lacks() by " + s + " and 9", house.lacks(), (8 - s) * TO_8);
        }
    }

    private static void sureOfAll() {
        says(29, "The least s by which no more than s of a CELL are OUT in so many hundredths of all ways, or more");
        for (int units = 0; units <= 8; units++) {
            for (int odds = 0; odds <= 12; odds++) {
                SparesHouse house = one(units, odds);
                for (int hundredths = 0; hundredths <= 100; hundredths++) {
                    int s = 0;
                    long sure = ways(units, odds, 0);
                    while (sure * 100 < hundredths * TO_8) {
                        s++;
                        sure += ways(units, odds, s);
                    }
                    due("sure(0, 0, " + hundredths + ") by UNITS " + units + ", ODDS " + odds,
                        house.sure(0, 0, hundredths), s);
                }
            }
        }
    }

    private static void sureBounds() {
        says(29, "so many hundredths (0 .. 100). NONE: no such ones");
        SparesHouse house = told(nine(1, 8, 12));
        due("sure(2, 2, 0)", house.sure(2, 2, 0), 0);
        due("sure(2, 2, 1)", house.sure(2, 2, 1), 8);
        due("sure(2, 2, 100)", house.sure(2, 2, 100), 8);
        noneBeyond("sure(2, 2, hundredths)", house, 100, (h, i) -> h.sure(2, 2, i));
        for (int none : BEYOND) {
            due("sure(" + none + ", 0, 50)", house.sure(none, 0, 50), NONE);
            due("sure(0, " + none + ", 50)", house.sure(0, none, 50), NONE);
        }
        says(29, "just so many hundredths, one more");
        // One unit by ODDS 3: 75 of a hundred; by ODDS 9: 25.
        due("sure(0, 0, 75)", one(1, 3).sure(0, 0, 75), 0);
        due("sure(0, 0, 76)", one(1, 3).sure(0, 0, 76), 1);
        due("sure(0, 0, 25)", one(1, 9).sure(0, 0, 25), 0);
        due("sure(0, 0, 26)", one(1, 9).sure(0, 0, 26), 1);
        due("sure(0, 0, 50)", one(1, 6).sure(0, 0, 50), 0);
        due("sure(0, 0, 51)", one(1, 6).sure(0, 0, 51), 1);
    }

    // ---- promises 30 and 31

    private static void buysOfAll() {
        says(30, "The k-th BUY, up to the most there can be");
        SparesHouse house = told(nine(30, 8, 12));
        for (int k = 0; k < 72; k++) {
            due("buys(" + k + ", 0)", house.buys(k, 0), k / 24);
            due("buys(" + k + ", 1)", house.buys(k, 1), k / 8 % 3);
            due("buys(" + k + ", 2)", house.buys(k, 2), k % 8 + 1);
            due("buys(" + k + ", 3)", house.buys(k, 3), 30 * (k + 1));
        }
        for (int what = 0; what <= 3; what++) {
            int w = what;
            noneBeyond("buys(k, " + what + ")", house, 71, (h, i) -> h.buys(i, w));
        }
    }

    private static void buysBounds() {
        says(30, "0 its BASE, 1 its PART, 2 how many spares then, 3 what it and those ahead of it cost. NONE: no such ones");
        SparesHouse house = told(DEAR);
        row("buys(0, what)", house, new int[] {0, 1, 1, 1}, (h, i) -> h.buys(0, i));
        row("buys(1, what)", house, new int[] {0, 0, 1, 31}, (h, i) -> h.buys(1, i));
        row("buys(8, what)", house, new int[] {0, 0, 8, 241}, (h, i) -> h.buys(8, i));
        row("buys(9, what)", house, new int[] {0, 1, 2, 242}, (h, i) -> h.buys(9, i));
        for (int what = 0; what <= 3; what++) {
            int w = what;
            noneBeyond("buys(k, " + what + ")", house, 9, (h, i) -> h.buys(i, w));
        }
        noneBeyond("buys(k, 0) without parts", new SparesHouse(), -1, (h, i) -> h.buys(i, 0));
    }

    private static void buysAboveNothing() {
        says(30, "as long as that GAIN is above 0");
        for (int units = 0; units <= 8; units++) {
            for (int odds : new int[] {0, 1, 11, 12}) {
                SparesHouse house = one(units, odds);
                int many = odds == 0 ? 0 : units;
                if (many > 0) {
                    due("the last one by UNITS " + units + ", ODDS " + odds, house.buys(many - 1, 2), many);
                }
                due("buys(" + many + ", 2) by UNITS " + units + ", ODDS " + odds, house.buys(many, 2), NONE);
                due("bought(99, 0)", house.bought(99, 0), many);
            }
        }
        due("no cell has odds", told(nine(1, 8, 0)).buys(0, 0), NONE);
        due("no cell has units", told(nine(1, 0, 12)).buys(0, 0), NONE);
    }

    private static void buysByFractions() {
        says(30, "the CELL whose GAIN by PRICE is greatest");
        // The eighth spare of each gains one way of all: 1 for 29 coins is more than 1 for 30.
        SparesHouse house = told("part 30 0 1;part 29 0 1;base 1;cell 0 0 8 1 0;cell 0 1 8 1 0;");
        for (int k = 0; k < 16; k++) {
            due("buys(" + k + ", 1)", house.buys(k, 1), 1 - k % 2);
            due("buys(" + k + ", 2)", house.buys(k, 2), k / 2 + 1);
        }
        says(30, "of several the first (by BASES, then PARTS)");
        house = told("part 4 0 1;part 2 0 1;base 1;base 1;cell 0 0 1 12 0;cell 0 1 1 6 0;cell 1 0 1 12 0;cell 1 1 1 6 0;");
        for (int k = 0; k < 4; k++) {
            due("buys(" + k + ", 0)", house.buys(k, 0), k / 2);
            due("buys(" + k + ", 1)", house.buys(k, 1), k % 2);
        }
        due("buys(3, 3)", house.buys(3, 3), 12);
        house = told("part 30 0 1;part 1 0 1;base 1;cell 0 0 8 12 0;cell 0 1 1 1 0;");
        due("a twelfth for a coin is ahead of one for thirty", house.buys(0, 1), 1);
    }

    private static void boughtBounds() {
        says(31, "With a PURSE (0 .. 99) by BUYS: 0 how many .. 4 of BASE 2. NONE for others");
        SparesHouse house = told(nine(11, 1, 12));
        int[][] rows = {{0, 0, 0, 0, 0, 0}, {10, 0, 0, 0, 0, 0}, {11, 1, 11, 1, 0, 0}, {21, 1, 11, 1, 0, 0},
            {22, 2, 22, 2, 0, 0}, {43, 3, 33, 3, 0, 0}, {44, 4, 44, 3, 1, 0}, {98, 8, 88, 3, 3, 2}, {99, 9, 99, 3, 3, 3}};
        for (int[] one : rows) {
            int purse = one[0];
            row("bought(" + purse + ", what)", house, new int[] {one[1], one[2], one[3], one[4], one[5]},
                (h, i) -> h.bought(purse, i));
        }
        for (int what = 0; what <= 4; what++) {
            int w = what;
            noneBeyond("bought(purse, " + what + ")", house, 99, (h, i) -> h.bought(i, w));
        }
        says(31, "of BASES that are not there: none");
        row("bought(99, what)", one(3, 12), new int[] {3, 3, 3, 0, 0}, (h, i) -> h.bought(99, i));
        row("bought(99, what) of none", new SparesHouse(), new int[5], (h, i) -> h.bought(99, i));
        row("bought(0, what)", one(3, 12), new int[5], (h, i) -> h.bought(0, i));
    }

    private static void boughtTillTheNextCostsMore() {
        says(31, "one buys them in this order, till the next one costs more than is left");
        SparesHouse house = told(DEAR);
        int[][] cases = {{0, 0, 0}, {1, 1, 1}, {2, 1, 1}, {30, 1, 1}, {31, 2, 31}, {32, 2, 31}, {60, 2, 31}, {61, 3, 61},
            {90, 3, 61}, {91, 4, 91}, {92, 4, 91}, {99, 4, 91}};
        for (int[] one : cases) {
            due("bought(" + one[0] + ", 0)", house.bought(one[0], 0), one[1]);
            due("bought(" + one[0] + ", 1)", house.bought(one[0], 1), one[2]);
        }
        // Though a coin is left and part 1's second spare costs one.
        long lacks = lacking(8, 12, 0) + lacking(2, 1, 1);
        due("lacksBy(2, false)", house.lacksBy(2, false), lacks);
        due("lacksBy(2, true)", house.lacksBy(2, true), lacking(8, 12, 0));
        due("best(2, 0, 1)", house.best(2, 0, 1), 2);
    }

    // ---- promises 32 to 34

    private static void lacksByBounds() {
        says(32, "NONE: another PURSE");
        SparesHouse house = told(nine(11, 1, 12));
        noneBeyond("lacksBy(purse, false)", house, 99, (h, i) -> h.lacksBy(i, false));
        noneBeyond("lacksBy(purse, true)", house, 99, (h, i) -> h.lacksBy(i, true));
        for (int purse = 0; purse <= 99; purse++) {
            due("lacksBy(" + purse + ", false)", house.lacksBy(purse, false), (9 - purse / 11) * TO_8);
            due("lacksBy(" + purse + ", true)", house.lacksBy(purse, true), (9 - purse / 11) * TO_8);
        }
        due("lacksBy(0, true) of none", new SparesHouse().lacksBy(0, true), 0);
        due("lacksBy(99, false) of none", new SparesHouse().lacksBy(99, false), 0);
    }

    private static void lacksByBoth() {
        says(32, "LACKS then (the BEST ones: best true)");
        SparesHouse house = told(DEAR);
        for (int purse = 0; purse <= 99; purse++) {
            long least = Long.MAX_VALUE;
            for (int a = 0; a <= 9; a++) {
                for (int b = 0; b <= 9; b++) {
                    if (30 * a + b <= purse) {
                        least = Math.min(least, lacking(8, 12, a) + lacking(2, 1, b));
                    }
                }
            }
            due("lacksBy(" + purse + ", true)", house.lacksBy(purse, true), least);
            int ones = purse >= 1 ? 1 : 0;
            int dear = Math.max(purse - 1, 0) / 30;
            due("lacksBy(" + purse + ", false)", house.lacksBy(purse, false), lacking(8, 12, dear) + lacking(2, 1, ones));
        }
    }

    private static void bestBounds() {
        says(33, "BEST with a PURSE (0 .. 99): how many spares of a CELL. NONE: no such ones");
        SparesHouse house = told(nine(11, 8, 12));
        noneBeyond("best(purse, 0, 0)", house, 99, (h, i) -> h.best(i, 0, 0));
        noneBeyond("best(purse, 2, 2)", house, 99, (h, i) -> h.best(i, 2, 2));
        for (int none : BEYOND) {
            due("best(50, " + none + ", 0)", house.best(50, none, 0), NONE);
            due("best(50, 0, " + none + ")", house.best(50, 0, none), NONE);
        }
        due("best(0, 2, 2)", house.best(0, 2, 2), 0);
        due("best(99, 2, 2)", house.best(99, 2, 2), 8);
        due("best(99, 2, 1)", house.best(99, 2, 1), 1);
        due("best(99, 2, 0)", house.best(99, 2, 0), 0);
        due("best(0, 0, 0) of none", new SparesHouse().best(0, 0, 0), NONE);
    }

    private static void bestCheapest() {
        says(33, "of these the cheapest");
        // Either one spares as much; the second costs less.
        SparesHouse house = told("part 3 0 1;part 2 0 1;base 1;cell 0 0 1 6 0;cell 0 1 1 6 0;");
        int[][] cases = {{0, 0, 0}, {1, 0, 0}, {2, 0, 1}, {3, 0, 1}, {4, 0, 1}, {5, 1, 1}, {6, 1, 1}, {99, 1, 1}};
        for (int[] one : cases) {
            due("best(" + one[0] + ", 0, 0)", house.best(one[0], 0, 0), one[1]);
            due("best(" + one[0] + ", 0, 1)", house.best(one[0], 0, 1), one[2]);
        }
        says(33, "no more than what can be out is bought, and nothing that is never out");
        for (int units = 0; units <= 8; units++) {
            due("best(99, 0, 0) by UNITS " + units, one(units, 12).best(99, 0, 0), units);
            due("best(99, 0, 0) by no ODDS", one(units, 0).best(99, 0, 0), 0);
            due("best(3, 0, 0) by UNITS " + units, one(units, 12).best(3, 0, 0), Math.min(units, 3));
        }
    }

    private static void bestFirstAsARow() {
        says(33, "of these the first as a row (by BASES, then PARTS)");
        SparesHouse house = told("part 5 0 1;part 5 0 1;base 1;base 1;"
            + "cell 0 0 1 6 0;cell 0 1 1 6 0;cell 1 0 1 6 0;cell 1 1 1 6 0;");
        int[][] rows = {{4, 0, 0, 0, 0}, {5, 0, 0, 0, 1}, {9, 0, 0, 0, 1}, {10, 0, 0, 1, 1}, {15, 0, 1, 1, 1}, {20, 1, 1, 1, 1}};
        for (int[] one : rows) {
            for (int cell = 0; cell < 4; cell++) {
                due("best(" + one[0] + ") of cell " + cell, house.best(one[0], cell / 2, cell % 2), one[cell + 1]);
            }
        }
    }

    private static void bestOfNine() {
        says(33, "of all numbers of spares whose PRICES together are no more than it");
        SparesHouse house = told(nine(11, 1, 12));
        for (int cell = 0; cell < 9; cell++) {
            due("best(99) of cell " + cell, house.best(99, cell / 3, cell % 3), 1);
            due("best(98) of cell " + cell, house.best(98, cell / 3, cell % 3), cell == 0 ? 0 : 1);
            due("best(11) of cell " + cell, house.best(11, cell / 3, cell % 3), cell == 8 ? 1 : 0);
            due("best(10) of cell " + cell, house.best(10, cell / 3, cell % 3), 0);
        }
        // By 30 coins each three of 72 can be had.
        house = told(nine(30, 8, 12));
        due("best(89, 2, 2)", house.best(89, 2, 2), 2);
        due("best(90, 2, 2)", house.best(90, 2, 2), 3);
        due("lacksBy(90, true)", house.lacksBy(90, true), 69 * TO_8);
        // By one coin each all of 72.
        house = told(nine(1, 8, 12));
        due("lacksBy(71, true)", house.lacksBy(71, true), TO_8);
        due("lacksBy(72, true)", house.lacksBy(72, true), 0);
        due("best(99, 0, 0)", house.best(99, 0, 0), 8);
        due("best(71, 0, 0)", house.best(71, 0, 0), 7);
    }

    private static void purseForBounds() {
        says(34, "so many hundredths (0 .. 100); NONE: out of bounds");
        SparesHouse house = told(nine(12, 1, 12));
        noneBeyond("purseFor(hundredths)", house, 100, (h, i) -> h.purseFor(i));
        noneBeyond("purseFor(hundredths) of none", new SparesHouse(), 100, (h, i) -> h.purseFor(i));
        says(34, "The least PURSE (0 .. 99); -2: with none");
        // Eight of nine for 96: a ninth still lacks, 11.1 hundredths.
        for (int hundredths = 0; hundredths <= 100; hundredths++) {
            int left = 9 * hundredths / 100;
            due("purseFor(" + hundredths + ")", house.purseFor(hundredths), left == 0 ? -2 : 12 * (9 - left));
        }
    }

    private static void purseForEdges() {
        says(34, "no more than so many hundredths of LACKS without spares");
        // All nine for just 99.
        due("purseFor(0) by 99", told(nine(11, 1, 12)).purseFor(0), 99);
        due("purseFor(11) by 99", told(nine(11, 1, 12)).purseFor(11), 99);
        due("purseFor(12)", told(nine(11, 1, 12)).purseFor(12), 88);
        due("purseFor(100)", told(nine(11, 1, 12)).purseFor(100), 0);
        SparesHouse house = told("part 25 0 1;base 1;cell 0 0 4 12 0;");
        due("purseFor(0): 100 coins are none", house.purseFor(0), -2);
        due("purseFor(24)", house.purseFor(24), -2);
        due("purseFor(25): just so many", house.purseFor(25), 75);
        due("purseFor(49)", house.purseFor(49), 75);
        due("purseFor(50): just so many", house.purseFor(50), 50);
        due("purseFor(74)", house.purseFor(74), 50);
        due("purseFor(75): just so many", house.purseFor(75), 25);
        due("purseFor(99)", house.purseFor(99), 25);
        due("purseFor(100)", house.purseFor(100), 0);
        says(34, "of LACKS without spares, by a coin a spare");
        for (int hundredths = 0; hundredths <= 100; hundredths++) {
            due("purseFor(" + hundredths + ")", one(4, 12).purseFor(hundredths), 4 - 4 * hundredths / 100);
        }
        says(34, "nothing lacks: 0");
        for (int hundredths = 0; hundredths <= 100; hundredths += 50) {
            due("purseFor of none", new SparesHouse().purseFor(hundredths), 0);
            due("purseFor without odds", one(8, 0).purseFor(hundredths), 0);
        }
    }

    private static void stocksAndDaysDoNotMatter() {
        says(30, "from no spares at all, whatever STOCKS are");
        SparesHouse house = told("part 1 0 1;base 1;cell 0 0 3 12 9;");
        house.breaks(0, 0);
        house.pass(1);
        due("buys(2, 2)", house.buys(2, 2), 3);
        due("bought(2, 0)", house.bought(2, 0), 2);
        due("lacksBy(2, false)", house.lacksBy(2, false), TO_8);
        due("lacksBy(2, true)", house.lacksBy(2, true), TO_8);
        due("best(2, 0, 0)", house.best(2, 0, 0), 2);
        due("purseFor(0)", house.purseFor(0), 3);
        due("lacks()", house.lacks(), 0);
        says(30, "by the latest of prices and odds");
        house.set(0, 0, 2);
        due("bought(2, 0)", house.bought(2, 0), 1);
        due("best(2, 0, 0)", house.best(2, 0, 0), 1);
        house.odds(0, 0, 0);
        due("buys(0, 0)", house.buys(0, 0), NONE);
        due("purseFor(0)", house.purseFor(0), 0);
        house.undo();
        due("buys(2, 3)", house.buys(2, 3), 6);
        house.undo();
        due("buys(2, 3)", house.buys(2, 3), 3);
        tell(house, NINE);
        due("buys(0, 0) behind a text", house.buys(0, 0), NONE);
        due("out(0, 0, 0) behind a text", house.out(0, 0, 0), TO_8);
        due("best(99, 0, 0) behind a text", house.best(99, 0, 0), 0);
    }

    private static void weighingChangesNothing() {
        says(33, "what is weighed by odds changes nothing");
        Call[] asked = {h -> h.out(0, 0, 1), h -> h.lack(1, 1, 3), SparesHouse::lacks, h -> h.sure(1, 1, 90), h -> h.buys(3, 3),
            h -> h.bought(50, 1), h -> h.lacksBy(50, false), h -> h.lacksBy(50, true), h -> h.best(50, 1, 1),
            h -> h.purseFor(40), h -> h.out(0, 0, 9), h -> h.lack(0, 0, 10), h -> h.sure(0, 0, 101), h -> h.buys(-1, 0),
            h -> h.bought(100, 0), h -> h.lacksBy(-1, true), h -> h.best(100, 0, 0), h -> h.purseFor(-1)};
        for (int i = 0; i < asked.length; i++) {
            SparesHouse house = new SparesHouse();
            busy(house);
            changesNothing("weighed " + i, Checks::busy, asked[i], asked[i].of(house));
        }
    }
}
