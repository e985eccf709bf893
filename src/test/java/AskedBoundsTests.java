/** Boundary cases of what is asked: promises 18 to 25 and 41; empty rows, full ones, what is beyond. */
public final class AskedBoundsTests extends Checks {
    private static final int[] BEYOND = {-1, -2, 3, 4, 8, 12, DEEP, FAR, 1 << 30, 1 << 16};

    public static void main(String[] args) {
        busyParts();
        busyBases();
        busyCells();
        lentNet();
        busyWants();
        busyCalls();
        busyWays();
        wayDays();
        busyWaits();
        busyPlayed();
        longestWait();
        late();
        counts();
        countBounds();
        nothingThere();
        fullHouse();
        fullWorks();
        allMended();
        askingChangesNothing();
        end("AskedBoundsTests");
    }

    private static SparesHouse busyHouse() {
        SparesHouse house = new SparesHouse();
        busy(house);
        return house;
    }

    /** Three parts and three bases, so that 3 is the first beyond. */
    private static SparesHouse nine() {
        return told("part 1 0 1;part 2 0 1;part 3 0 1;base 7;base 8;base 9;cell 0 0 1 1 1;cell 1 0 2 2 2;cell 2 2 3 3 3;");
    }

    // ---- promises 18 to 20

    private static void busyParts() {
        says(18, "Of a PART: 0 PRICE .. 8 those that are SENT. NONE for others");
        SparesHouse house = busyHouse();
        row("part(0, what)", house, new int[] {4, 0, 9, 1, 0, 4, 2, 1, 2}, (h, i) -> h.part(0, i));
        row("part(1, what)", house, new int[] {7, 3, 2, 0, 0, 0, 0, 0, 0}, (h, i) -> h.part(1, i));
        row("part(part, 0)", house, new int[] {4, 7}, (h, i) -> h.part(i, 0));
        row("part(part, 5)", house, new int[] {4, 0}, (h, i) -> h.part(i, 5));
        row("part(part, 0) of three", nine(), new int[] {1, 2, 3}, (h, i) -> h.part(i, 0));
        noneBeyond("part(part, 0) of none", told("base 1;base 1;base 1;"), -1, (h, i) -> h.part(i, 0));
    }

    private static void busyBases() {
        says(19, "Of a BASE: 0 SHIP .. 4 pieces in HAND. NONE for others");
        SparesHouse house = busyHouse();
        row("base(0, what)", house, new int[] {2, 4, 4, 2, 0}, (h, i) -> h.base(0, i));
        row("base(1, what)", house, new int[] {1, 0, 0, 0, 9}, (h, i) -> h.base(1, i));
        row("base(base, 0)", house, new int[] {2, 1}, (h, i) -> h.base(i, 0));
        row("base(base, 4)", house, new int[] {0, 9}, (h, i) -> h.base(i, 4));
        row("base(base, 0) of three", nine(), new int[] {7, 8, 9}, (h, i) -> h.base(i, 0));
        noneBeyond("base(base, 0) of none", told("part 1 0 1;part 1 0 1;part 1 0 1;"), -1, (h, i) -> h.base(i, 0));
        due("base(0, 4) without parts", told("base 1;").base(0, 4), 0);
    }

    private static void busyCells() {
        says(20, "Of a CELL: 0 UNITS .. 8 pieces LENT to it less those LENT from it. NONE for others");
        int[][] cells = {{3, 5, 1, 0, 3, 4, 1, 0, 1}, {2, 4, 0, 0, 1, 0, 1, 1, 1},
            {2, 3, 2, 1, 0, 0, 0, 0, -1}, {8, 12, 9, 8, 0, 0, 0, 0, -1}};
        SparesHouse house = busyHouse();
        for (int cell = 0; cell < 4; cell++) {
            int base = cell / 2;
            int part = cell % 2;
            row("cell(" + base + ", " + part + ", what)", house, cells[cell], (h, i) -> h.cell(base, part, i));
        }
        says(20, "-1000: no such CELL");
        for (int none : BEYOND) {
            SparesHouse nine = nine();
            for (int what = 0; what <= 7; what++) {
                due("cell(" + none + ", 0, " + what + ")", nine.cell(none, 0, what), NONE);
                due("cell(0, " + none + ", " + what + ")", nine.cell(0, none, what), NONE);
            }
            due("cell(" + none + ", 0, 8)", nine.cell(none, 0, 8), -1000);
            due("cell(0, " + none + ", 8)", nine.cell(0, none, 8), -1000);
            due("cell(" + none + ", " + none + ", 8)", nine.cell(none, none, 8), -1000);
            for (int what : new int[] {-1, 9, DEEP, FAR}) {
                due("cell(" + none + ", 0, " + what + ")", nine.cell(none, 0, what), NONE);
                due("cell(0, " + none + ", " + what + ")", nine.cell(0, none, what), NONE);
            }
        }
        due("cell(1, -4, 8): the place of a cell, but none", nine().cell(1, -4, 8), -1000);
        due("cell(0, 4, 0): the place of a cell, but none", nine().cell(0, 4, 0), NONE);
        due("cell(2, 2, 8): the last cell", nine().cell(2, 2, 8), 0);
        due("a part, no base", told("part 1 0 1;").cell(0, 0, 8), -1000);
        due("a base, no part", told("base 1;").cell(0, 0, 8), -1000);
    }

    private static void lentNet() {
        says(20, "pieces LENT to it since it began less those LENT from it (as they begin; it may be below 0)");
        SparesHouse house = told("part 1 9 1;base 9;base 9;base 9;cell 0 0 8 0 0;cell 1 0 1 0 9;cell 2 0 1 0 9;");
        for (int i = 0; i < 8; i++) {
            house.breaks(0, 0);
        }
        due("cell(0, 0, 8): none is lent yet", house.cell(0, 0, 8), 0);
        house.pass(1);
        due("cell(0, 0, 8): eight begin", house.cell(0, 0, 8), 8);
        due("cell(1, 0, 8)", house.cell(1, 0, 8), -8);
        due("cell(2, 0, 8)", house.cell(2, 0, 8), 0);
        due("cell(1, 0, 3)", house.cell(1, 0, 3), 1);
        house.pass(30);
        due("cell(0, 0, 8): they came", house.cell(0, 0, 8), 8);
        house.breaks(1, 0);
        house.breaks(1, 0);
        house.pass(1);
        due("cell(1, 0, 8): one is lent back", house.cell(1, 0, 8), -7);
        due("cell(0, 0, 8)", house.cell(0, 0, 8), 7);
        house.begin();
        due("cell(0, 0, 8) as it began", house.cell(0, 0, 8), 0);
        due("cell(1, 0, 8) as it began", house.cell(1, 0, 8), 0);
    }

    // ---- promises 21 to 24

    private static void busyWants() {
        says(21, "The k-th WANT that is not filled, the oldest first. NONE: no such ones");
        SparesHouse house = busyHouse();
        int[][] wants = {{0, 0, 0, 0}, {0, 1, 0, 1}, {0, 0, 2, 0}, {0, 0, 2, 0}};
        for (int k = 0; k < wants.length; k++) {
            int at = k;
            row("want(" + k + ", what)", house, wants[k], (h, i) -> h.want(at, i));
        }
        for (int what = 0; what <= 3; what++) {
            int one = what;
            noneBeyond("want(k, " + what + ")", house, 3, (h, i) -> h.want(i, one));
        }
        SparesHouse filled = told("part 1 1 1;base 1;cell 0 0 1 0 0;");
        filled.breaks(0, 0);
        due("want(0, 2)", filled.want(0, 2), 0);
        filled.pass(1);
        due("want(0, 2): it is filled", filled.want(0, 2), NONE);
    }

    private static void busyCalls() {
        says(22, "The k-th CALL of a PART that is not ANSWERED, the oldest first. NONE: no such ones");
        SparesHouse house = busyHouse();
        int[] days = {0, 0, 2, 2};
        for (int k = 0; k < days.length; k++) {
            int at = k;
            row("call(0, " + k + ", what)", house, new int[] {0, days[k]}, (h, i) -> h.call(0, at, i));
        }
        noneBeyond("call(0, k, 0)", house, 3, (h, i) -> h.call(0, i, 0));
        noneBeyond("call(0, k, 1)", house, 3, (h, i) -> h.call(0, i, 1));
        noneBeyond("call(1, k, 0)", house, -1, (h, i) -> h.call(1, i, 0));
        noneBeyond("call(part, 0, 0)", house, 0, (h, i) -> h.call(i, 0, 0));
        house = told("part 1 0 1;part 1 0 1;base 1;cell 0 0 1 0 1;works 0 1;");
        house.breaks(0, 0);
        due("call(0, 0, 0): it is answered", house.call(0, 0, 0), NONE);
    }

    private static void busyWays() {
        says(23, "The k-th of WAYS under way, by the DAYS on which they come, then by numbers. NONE: no such ones");
        SparesHouse house = busyHouse();
        int[][] ways = {{0, 4, 1, 0, 3}, {4, 5, 0, 0, 4}, {4, 6, 1, 0, 4}, {1, 8, 0, 0, 4}, {1, 9, 0, 0, 4},
            {2, 7, 0, -2, 11}};
        for (int k = 0; k < ways.length; k++) {
            int at = k;
            row("way(" + k + ", what)", house, ways[k], (h, i) -> h.way(at, i));
        }
        for (int what = 0; what <= 4; what++) {
            int one = what;
            noneBeyond("way(k, " + what + ")", house, 5, (h, i) -> h.way(i, one));
        }
        says(23, "-2: on a BENCH; NONE, where both could be told");
        due("way(5, 3)", house.way(5, 3), -2);
        due("way(6, 3)", house.way(6, 3), NONE);
        says(23, "SHIPPED: the BASE to which it goes; MENDED: where it is; SENT: from which");
        house = told("part 1 0 1;part 1 9 1;base 9;base 9;base 9;cell 2 0 1 0 1;cell 1 1 1 0 1;works 0 1;");
        house.breaks(2, 0);
        house.breaks(1, 1);
        int[][] three = {{1, 0, 0, 2, 9}, {3, 1, 0, 2, 9}, {0, 2, 1, 1, 9}};
        for (int k = 0; k < three.length; k++) {
            int at = k;
            row("way(" + k + ", what)", house, three[k], (h, i) -> h.way(at, i));
        }
    }

    private static void wayDays() {
        says(23, "the DAY on which it comes, though it is above 9999");
        SparesHouse house = told("part 1 9 1;base 1;cell 0 0 8 0 0;");
        goTo(house, 9990);
        house.breaks(0, 0);
        due("way(0, 4)", house.way(0, 4), 9999);
        house.pass(1);
        house.breaks(0, 0);
        due("way(1, 4)", house.way(1, 4), 10000);
        house.pass(8);
        house.breaks(0, 0);
        due("way(0, 4)", house.way(0, 4), 10000);
        due("way(1, 4)", house.way(1, 4), 10008);
        due("played(3)", house.played(3), 2);
        due("want(0, 2)", house.want(0, 2), 9991);
        due("want(1, 2)", house.want(1, 2), 9999);
        due("played(5)", house.played(5), 9 + 8);
        due("pass(1)", house.pass(1), NONE);
    }

    private static void busyWaits() {
        says(24, "The PART of the k-th broken piece that waits at the works. NONE: no such one");
        row("waits(k)", busyHouse(), new int[] {0, 0}, (h, i) -> h.waits(i));
        SparesHouse house = told("part 1 0 1;part 1 0 1;part 1 0 1;base 1;cell 0 0 1 0 1;cell 0 1 1 0 1;cell 0 2 1 0 1;");
        house.breaks(0, 1);
        house.breaks(0, 2);
        house.breaks(0, 0);
        noneBeyond("waits(k): they are sent", house, -1, (h, i) -> h.waits(i));
        house.pass(1);
        row("waits(k): one is on the bench", house, new int[] {2, 0}, (h, i) -> h.waits(i));
        house.pass(1);
        row("waits(k)", house, new int[] {0}, (h, i) -> h.waits(i));
        house.pass(1);
        row("waits(k)", house, new int[0], (h, i) -> h.waits(i));
    }

    // ---- promises 25 and 41

    private static void busyPlayed() {
        says(25, "Since it began: 0 the DAY .. 10 pieces that wait at the works. NONE for others");
        row("played(what)", busyHouse(), new int[] {2, 6, 1, 4, 1, 6, 2, 2, 1, 6, 2}, (h, i) -> h.played(i));
        row("played(what) of a new one", new SparesHouse(), new int[11], (h, i) -> h.played(i));
    }

    private static void longestWait() {
        says(25, "the most DAYS that one WANT waited (LATE likewise; 0 without)");
        SparesHouse house = told("part 1 3 1;base 1;cell 0 0 2 0 1;");
        house.breaks(0, 0);
        house.pass(1);
        due("played(6) without a want", house.played(6), 0);
        house.breaks(0, 0);
        due("played(6) on its day", house.played(6), 0);
        house.pass(1);
        due("played(6) till now", house.played(6), 1);
        house.pass(1);
        due("played(6) till it was filled", house.played(6), 2);
        house.pass(30);
        due("played(6) stays", house.played(6), 2);
        house.set(0, 1, 1);
        house.breaks(0, 0);
        house.breaks(0, 0);
        house.breaks(0, 0);
        house.pass(1);
        due("played(6): a shorter one", house.played(6), 2);
        house.set(0, 1, 9);
        house.breaks(0, 0);
        house.breaks(0, 0);
        house.breaks(0, 0);
        house.pass(2);
        due("played(6): as long, not filled", house.played(6), 2);
        house.pass(1);
        due("played(6): longer, not filled", house.played(6), 3);
        house.begin();
        due("played(6) as it began", house.played(6), 0);
    }

    private static void late() {
        says(25, "LATE: how many DAYS they waited, till they were filled, or till now, together");
        SparesHouse house = told("part 1 9 1;base 1;cell 0 0 8 0 0;");
        for (int i = 0; i < 8; i++) {
            house.breaks(0, 0);
            due("played(5)", house.played(5), i * (i + 1) / 2);
            house.pass(1);
        }
        due("played(5) on day 8", house.played(5), 36);
        house.pass(1);
        due("played(5) on day 9", house.played(5), 44);
        due("played(4)", house.played(4), 1);
        house.pass(7);
        due("played(5) on day 16", house.played(5), 72);
        house.pass(30);
        due("played(5) behind it", house.played(5), 72);
        due("played(6)", house.played(6), 9);
        due("played(3)", house.played(3), 0);
        due("played(4)", house.played(4), 8);
        says(25, "LATE up to the last DAY");
        house = told("part 1 9 1;base 1;cell 0 0 8 0 0;");
        goTo(house, 9991);
        house.breaks(0, 0);
        house.pass(8);
        house.breaks(0, 0);
        due("played(5) on the last day", house.played(5), 8);
        due("played(6) on the last day", house.played(6), 8);
    }

    private static void counts() {
        says(41, "0 PARTS .. 9 WAYS that began since it began. NONE for others");
        row("count(what)", busyHouse(), new int[] {2, 2, 1, 1, 1, 8, 7, 15, 12, 10}, (h, i) -> h.count(i));
        row("count(what) of a new one", new SparesHouse(), new int[] {0, 0, 1, 0, 0, 0, 0, 0, 0, 0}, (h, i) -> h.count(i));
    }

    private static void countBounds() {
        says(41, "7 UNITS of all CELLS, 8 STOCKS of all CELLS");
        SparesHouse house = told(full(1, 0, 1, 9));
        due("count(7)", house.count(7), 72);
        due("count(8): the works' do not count", house.count(8), 81);
        house.sell(2, 2);
        due("count(8)", house.count(8), 80);
        house.supply(0);
        due("count(8)", house.count(8), 80);
        due("count(0)", house.count(0), 3);
        due("count(1)", house.count(1), 3);
        due("count(7) of another text", tell(house, "part 1 0 1;base 1;cell 0 0 1 0 2;"), 1);
        due("count(7)", house.count(7), 1);
        due("count(8)", house.count(8), 2);
        says(41, "6 bytes of the tape");
        for (int i = 1; i <= 20; i++) {
            house.feed(0, 0, 0, 0, 0);
            due("count(6)", house.count(6), 20 * i);
        }
        house.feed(0, 0, 0, 0, 0);
        due("count(6)", house.count(6), 400);
        says(41, "9 WAYS that began since it began, though they came");
        house = told("part 1 1 1;base 1;cell 0 0 1 0 0;");
        house.breaks(0, 0);
        house.pass(1);
        due("count(9)", house.count(9), 1);
        due("played(9)", house.played(9), 0);
        house.breaks(0, 0);
        due("count(9)", house.count(9), 2);
        house.undo();
        due("count(9)", house.count(9), 1);
        house.begin();
        due("count(9)", house.count(9), 0);
    }

    // ---- nothing and all

    private static void nothingThere() {
        says(21, "NONE: no such ones, in a house in which nothing happened");
        SparesHouse house = nine();
        for (int what = 0; what <= 3; what++) {
            due("want(0, " + what + ")", house.want(0, what), NONE);
        }
        for (int what = 0; what <= 1; what++) {
            due("call(2, 0, " + what + ")", house.call(2, 0, what), NONE);
        }
        for (int what = 0; what <= 4; what++) {
            due("way(0, " + what + ")", house.way(0, what), NONE);
        }
        due("waits(0)", house.waits(0), NONE);
        for (int what = 4; what <= 8; what++) {
            due("part(2, " + what + ")", house.part(2, what), 0);
            due("cell(2, 2, " + what + ")", house.cell(2, 2, what), 0);
        }
        for (int what = 1; what <= 3; what++) {
            due("base(2, " + what + ")", house.base(2, what), 0);
        }
    }

    private static String full(int benches, int mend, int work, int ship) {
        StringBuilder text = new StringBuilder("benches " + benches + ";");
        text.append(("part 1 " + mend + " " + work + ";").repeat(3)).append(("base " + ship + ";").repeat(3));
        for (int i = 0; i < 9; i++) {
            text.append("cell " + i / 3 + " " + i % 3 + " 8 12 9;");
        }
        return text.append("works 0 9;works 1 9;works 2 9;").toString();
    }

    /** All 17 pieces of each cell: 153 calls. */
    private static void breakAll(SparesHouse house) {
        for (int cell = 0; cell < 9; cell++) {
            for (int i = 0; i < 17; i++) {
                house.breaks(cell / 3, cell % 3);
            }
        }
    }

    private static void fullHouse() {
        says(23, "as many WAYS, WANTS and CALLS as there can be");
        SparesHouse house = told(full(3, 0, 1, 9));
        breakAll(house);
        // Of each part nine calls of base 0 were answered at once.
        row("played(what)", house, new int[] {0, 153, 81, 72, 0, 0, 0, 0, 27, 180, 0}, (h, i) -> h.played(i));
        due("count(9)", house.count(9), 180);
        due("way(179, 1)", house.way(179, 1), 179);
        due("way(179, 2)", house.way(179, 2), 2);
        due("way(179, 3)", house.way(179, 3), 2);
        due("way(180, 1)", house.way(180, 1), NONE);
        due("want(71, 0)", house.want(71, 0), 2);
        due("want(71, 1)", house.want(71, 1), 2);
        due("want(72, 0)", house.want(72, 0), NONE);
        due("part(2, 5)", house.part(2, 5), 42);
        due("call(2, 7, 0)", house.call(2, 7, 0), 0);
        due("call(2, 8, 0)", house.call(2, 8, 0), 1);
        due("call(2, 24, 0)", house.call(2, 24, 0), 1);
        due("call(2, 25, 0)", house.call(2, 25, 0), 2);
        due("call(2, 41, 0)", house.call(2, 41, 0), 2);
        due("call(2, 42, 0)", house.call(2, 42, 0), NONE);
        due("part(2, 8)", house.part(2, 8), 51);
        due("base(0, 1)", house.base(0, 1), 24);
        due("base(0, 2)", house.base(0, 2), 24);
        due("base(0, 3)", house.base(0, 3), 27);
        due("base(2, 2)", house.base(2, 2), 51);
        due("cell(0, 0, 6)", house.cell(0, 0, 6), 9);
        due("cell(2, 2, 5)", house.cell(2, 2, 5), 17);
        for (int cell = 0; cell < 9; cell++) {
            due("breaks of a cell all of holes", house.breaks(cell / 3, cell % 3), NONE);
        }
        due("run(1, 1): nothing can break", house.run(1, 1), 0);
        due("undo()", house.undo(), 11);
        due("undo(): the latest that broke", house.undo(), 10);
        due("played(9)", house.played(9), 179);
        due("breaks(2, 2)", house.breaks(2, 2), 179);
    }

    private static void fullWorks() {
        says(24, "as many as can wait at the works");
        SparesHouse house = told(full(3, 0, 1, 9));
        breakAll(house);
        house.pass(9);
        // Base 0's shipped ones filled its 24 wants, three were left in hand and are lent.
        row("played(what)", house, new int[] {9, 153, 81, 48, 24, 648, 9, 3, 27, 6, 150}, (h, i) -> h.played(i));
        due("part(0, 7)", house.part(0, 7), 3);
        due("waits(0)", house.waits(0), 0);
        due("waits(13)", house.waits(13), 0);
        due("waits(14)", house.waits(14), 1);
        due("waits(149)", house.waits(149), 2);
        due("waits(150)", house.waits(150), NONE);
        due("part(0, 6)", house.part(0, 6), 48);
        due("part(2, 6)", house.part(2, 6), 51);
        due("base(0, 4)", house.base(0, 4), 0);
        due("cell(0, 2, 8)", house.cell(0, 2, 8), -1);
        due("cell(1, 2, 8)", house.cell(1, 2, 8), 1);
        house.pass(1);
        due("played(10)", house.played(10), 147);
        due("played(8)", house.played(8), 30);
        house.pass(30);
        house.pass(19);
        due("played(10): all were on benches", house.played(10), 0);
        due("played(8): all calls are answered", house.played(8), 153);
        due("part(0, 4): of 51 off the bench 42 were called for", house.part(0, 4), 9);
        due("part(2, 4): three are still on benches", house.part(2, 4), 6);
        due("part(2, 7)", house.part(2, 7), 3);
        house.pass(1);
        due("part(2, 4)", house.part(2, 4), 9);
        due("part(0, 5) + part(1, 5) + part(2, 5)", house.part(0, 5) + house.part(1, 5) + house.part(2, 5), 0);
        due("pass(30)", house.pass(30), 90);
        due("played(9)", house.played(9), 0);
        due("played(3)", house.played(3), 0);
        int hands = 0;
        for (int i = 0; i < 3; i++) {
            hands += house.base(i, 4) + house.part(i, 4);
        }
        due("all spares are in hand again", hands, 108);
    }

    private static void allMended() {
        says(20, "7 MENDED ones under way, as many as there can be");
        SparesHouse house = told(full(1, 9, 1, 1));
        breakAll(house);
        due("played(9)", house.played(9), 153);
        due("played(8)", house.played(8), 0);
        for (int cell = 0; cell < 9; cell++) {
            due("cell(.., 7)", house.cell(cell / 3, cell % 3, 7), 17);
            due("cell(.., 4)", house.cell(cell / 3, cell % 3, 4), 8);
            due("cell(.., 5)", house.cell(cell / 3, cell % 3, 5), 0);
        }
        house.pass(9);
        due("played(9)", house.played(9), 0);
        due("played(5)", house.played(5), 72 * 9);
        for (int cell = 0; cell < 9; cell++) {
            due("cell(.., 3)", house.cell(cell / 3, cell % 3, 3), 9);
        }
    }

    private static void askingChangesNothing() {
        says(25, "what is asked changes nothing");
        Call[] asked = {h -> h.part(0, 5), h -> h.base(0, 3), h -> h.cell(0, 0, 8), h -> h.want(3, 3), h -> h.call(0, 3, 1),
            h -> h.way(5, 4), h -> h.waits(1), h -> h.played(5), h -> h.count(9), h -> h.spell(-1), h -> h.spell(50),
            h -> h.part(9, 9), h -> h.base(-1, 0), h -> h.cell(7, 7, 8), h -> h.want(-1, 0), h -> h.call(0, -1, 0),
            h -> h.way(99, 3), h -> h.waits(-1), h -> h.played(11), h -> h.count(-1), h -> h.spell(-2)};
        for (int i = 0; i < asked.length; i++) {
            changesNothing("asked " + i, Checks::busy, asked[i], asked[i].of(busyHouse()));
        }
    }
}
