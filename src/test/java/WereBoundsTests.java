/** Boundary cases of what were: promises 35 to 39; a RUN's bounds, the last DAY, and that nothing happens. */
public final class WereBoundsTests extends Checks {
    private static final int[] NO_DAYS = {0, -1, -12, DEEP, 13, 14, 30, 9999, 65537, FAR};
    private static final int[] SEEDS = {0, 1, -1, 7, 12345, FAR, DEEP};
    private static final String PLAIN = "part 1 9 1;base 1;cell 0 0 2 12 1;";

    public static void main(String[] args) {
        wouldDays();
        wouldWhat();
        wouldAsARun();
        sparedBounds();
        sparedAsABuy();
        sparedThoughStockIsNine();
        sparedBelowNothing();
        byBounds();
        byAsAnAct();
        byBenches();
        bestKeepBounds();
        bestKeepLeast();
        theLastDays();
        quietNow();
        quietAsDaysGoBy();
        quietOnTheLastDay();
        nothingHappens();
        fullHouse();
        end("WereBoundsTests");
    }

    private static SparesHouse busyHouse() {
        SparesHouse house = new SparesHouse();
        busy(house);
        return house;
    }

    // ---- promise 35

    private static void wouldDays() {
        says(35, "behind a RUN (1 .. 12 DAYS). NONE: others");
        SparesHouse house = told(PLAIN);
        for (int days = 1; days <= 12; days++) {
            due("would(" + days + ", 1, 0)", house.would(days, 1, 0), days);
        }
        for (int days : NO_DAYS) {
            due("would(" + days + ", 1, 0)", house.would(days, 1, 0), NONE);
        }
        due("would(1, 1, 0) of none", new SparesHouse().would(1, 1, 0), 1);
        due("would(12, 1, 0) of none", new SparesHouse().would(12, 1, 0), 12);
    }

    private static void wouldWhat() {
        says(35, "What played() would tell. NONE: another what");
        row("would(5, 1, what)", told(PLAIN), new int[] {5, 3, 1, 2, 0, 7, 4, 0, 0, 3, 0}, (h, i) -> h.would(5, 1, i));
        row("would(1, 1, what)", told(PLAIN), new int[] {1, 1, 1, 0, 0, 0, 0, 0, 0, 1, 0}, (h, i) -> h.would(1, 1, i));
        row("would(1, 1, what) of none", new SparesHouse(), new int[] {1, 0, 0, 0, 0, 0, 0, 0, 0, 0, 0},
            (h, i) -> h.would(1, 1, i));
    }

    private static void wouldAsARun() {
        says(35, "as played() behind that RUN");
        for (int seed : SEEDS) {
            for (int days : new int[] {1, 2, 11, 12}) {
                SparesHouse house = busyHouse();
                SparesHouse ran = busyHouse();
                due("run(" + days + ", " + seed + ")", ran.run(days, seed), house.would(days, seed, 1) - house.played(1));
                for (int what = 0; what <= 10; what++) {
                    due("would(" + days + ", " + seed + ", " + what + ")", house.would(days, seed, what), ran.played(what));
                }
            }
        }
    }

    // ---- promise 36

    private static void sparedBounds() {
        says(36, "-100000: no such ones");
        SparesHouse house = busyHouse();
        for (int days : NO_DAYS) {
            due("spared(" + days + ", 1, 0, 0)", house.spared(days, 1, 0, 0), -100000);
        }
        for (int none : new int[] {-1, -2, 2, 3, 4, 8, DEEP, FAR}) {
            due("spared(1, 1, " + none + ", 0)", house.spared(1, 1, none, 0), -100000);
            due("spared(1, 1, 0, " + none + ")", house.spared(1, 1, 0, none), -100000);
        }
        due("spared(12, 1, 1, -4)", house.spared(12, 1, 1, -4), -100000);
        due("spared(1, 1, 0, 0) of none", new SparesHouse().spared(1, 1, 0, 0), -100000);
        due("a part, no base", told("part 1 0 1;").spared(1, 1, 0, 0), -100000);
        due("a base, no part", told("base 1;").spared(1, 1, 0, 0), -100000);
        due("nothing is late: 0", told("part 1 0 1;base 1;").spared(12, 1, 0, 0), 0);
        // The second want of PLAIN's comes on day 2: one spare more puts it off by a day.
        due("spared(1, 1, 0, 0)", told(PLAIN).spared(1, 1, 0, 0), 0);
        due("spared(2, 1, 0, 0)", told(PLAIN).spared(2, 1, 0, 0), 1);
        due("spared(8, 1, 0, 0)", told("part 1 9 1;base 1;cell 0 0 1 12 0;").spared(8, 1, 0, 0), 1);
    }

    private static void sparedAsABuy() {
        says(36, "LATE behind such a RUN less LATE behind it, did a spare come to a CELL first, as by buy()");
        for (int seed : SEEDS) {
            for (int days : new int[] {1, 6, 12}) {
                for (int cell = 0; cell < 3; cell++) {
                    SparesHouse ran = busyHouse();
                    ran.run(days, seed);
                    SparesHouse bought = busyHouse();
                    bought.buy(cell / 2, cell % 2);
                    bought.run(days, seed);
                    due("spared(" + days + ", " + seed + ") of cell " + cell, busyHouse().spared(days, seed, cell / 2, cell % 2),
                        ran.played(5) - bought.played(5));
                }
            }
        }
    }

    private static void sparedThoughStockIsNine() {
        says(36, "though STOCK is 9");
        for (int breaks = 9; breaks <= 17; breaks++) {
            SparesHouse house = told("part 1 9 1;base 1;cell 0 0 8 0 9;");
            for (int i = 0; i < breaks; i++) {
                house.breaks(0, 0);
            }
            due("buy(0, 0)", house.buy(0, 0), NONE);
            due("spared(3, 0, 0, 0) behind " + breaks, house.spared(3, 0, 0, 0), breaks > 9 ? 3 : 0);
            due("cell(0, 0, 2)", house.cell(0, 0, 2), 9);
        }
    }

    private static void sparedBelowNothing() {
        says(36, "it may be below 0");
        // With a spare each piece breaks a day later, is wanted, and no want lives long enough to be lent for:
        // 2 + 2 + 1 days as it is, six wants of a day with it.
        SparesHouse house = told("part 1 2 6;base 2;base 1;cell 0 0 1 12 0;cell 1 0 2 0 5;");
        due("would(7, 1, 5)", house.would(7, 1, 5), 5);
        due("spared(7, 1, 0, 0)", house.spared(7, 1, 0, 0), -1);
    }

    // ---- promise 37

    private static void byBounds() {
        says(37, "(what 0) RULE v (0, 1), (1) KEEP v (0 .. 4), (2) BENCHES v (1 .. 3). NONE: no such ones");
        int[][] bounds = {{0, 1}, {0, 4}, {1, 3}};
        for (int what = 0; what <= 2; what++) {
            SparesHouse house = busyHouse();
            for (int v = -2; v <= 6; v++) {
                boolean taken = v >= bounds[what][0] && v <= bounds[what][1];
                due("by(1, 1, " + what + ", " + v + ") is told", house.by(1, 1, what, v) == NONE ? 0 : 1, taken ? 1 : 0);
            }
            for (int v : new int[] {DEEP, FAR, 257, 65537}) {
                due("by(1, 1, " + what + ", " + v + ")", house.by(1, 1, what, v), NONE);
            }
            for (int days : NO_DAYS) {
                due("by(" + days + ", 1, " + what + ", 1)", house.by(days, 1, what, 1), NONE);
            }
        }
        SparesHouse house = busyHouse();
        for (int what : new int[] {-1, -2, 3, 4, DEEP, FAR}) {
            for (int v = 0; v <= 3; v++) {
                due("by(1, 1, " + what + ", " + v + ")", house.by(1, 1, what, v), NONE);
            }
        }
        due("by(1, 5, 0, 0) of none", new SparesHouse().by(1, 5, 0, 0), 0);
        due("by(12, 5, 1, 4) of none", new SparesHouse().by(12, 5, 1, 4), 0);
        due("by(12, 5, 2, 3) of none", new SparesHouse().by(12, 5, 2, 3), 0);
    }

    private static void byAsAnAct() {
        says(37, "LATE behind such a RUN, were, from now on, RULE, KEEP, BENCHES so");
        for (int seed : SEEDS) {
            for (int days : new int[] {1, 12}) {
                String run = "by(" + days + ", " + seed + ", ";
                for (int v = 0; v <= 1; v++) {
                    SparesHouse other = busyHouse();
                    if (v == 0) {
                        other.rule();
                    }
                    other.run(days, seed);
                    due(run + "0, " + v + ")", busyHouse().by(days, seed, 0, v), other.played(5));
                }
                for (int v = 0; v <= 4; v++) {
                    SparesHouse other = busyHouse();
                    other.keep(v);
                    other.run(days, seed);
                    due(run + "1, " + v + ")", busyHouse().by(days, seed, 1, v), other.played(5));
                }
                for (int v = 1; v <= 3; v++) {
                    SparesHouse other = busyHouse();
                    other.benches(v);
                    other.run(days, seed);
                    due(run + "2, " + v + ")", busyHouse().by(days, seed, 2, v), other.played(5));
                }
            }
        }
    }

    private static void byBenches() {
        says(37, "more BENCHES from now on, fewer, as many");
        // Three pieces at the works since day 1, SHIP 1, WORK 4: wants are filled a day behind the bench.
        for (int benches = 1; benches <= 3; benches++) {
            SparesHouse house = told("benches " + benches + ";part 1 0 4;base 1;cell 0 0 3 0 0;");
            house.breaks(0, 0);
            house.breaks(0, 0);
            house.breaks(0, 0);
            house.pass(1);
            // By one bench on days 6, 10, 14, by two on 6, 6, 10, by three all on 6; day 13 is as far as twelve days go.
            // What is on a bench stays on it: fewer begin later only.
            int[][] late = {{6 + 10 + 13, 6 + 6 + 10, 6 * 3}, {6 + 6 + 10, 6 + 6 + 10, 6 * 3}, {6 * 3, 6 * 3, 6 * 3}};
            for (int v = 1; v <= 3; v++) {
                due("by(12, 0, 2, " + v + ") of " + benches, house.by(12, 0, 2, v), late[benches - 1][v - 1]);
            }
            due("count(2)", house.count(2), benches);
        }
    }

    // ---- promise 38

    private static void bestKeepBounds() {
        says(38, "NONE: likewise");
        SparesHouse house = busyHouse();
        for (int days : NO_DAYS) {
            due("bestKeep(" + days + ", 1)", house.bestKeep(days, 1), NONE);
        }
        due("bestKeep(1, 5) of none", new SparesHouse().bestKeep(1, 5), 0);
        due("bestKeep(12, 5) of none", new SparesHouse().bestKeep(12, 5), 0);
    }

    private static void bestKeepLeast() {
        says(38, "The KEEP by which that is least, of several the least");
        // Base 1's two wants can't be helped within five days; what base 0 lends it lacks itself.
        SparesHouse house = told("part 1 8 1;base 3;base 7;cell 0 0 1 12 5;cell 1 0 2 12 0;");
        int[] late = {11, 11, 10, 10, 9};
        for (int v = 0; v <= 4; v++) {
            due("by(5, 1, 1, " + v + ")", house.by(5, 1, 1, v), late[v]);
        }
        due("bestKeep(5, 1): the last one", house.bestKeep(5, 1), 4);
        due("bestKeep(1, 1): all alike", house.bestKeep(1, 1), 0);
        due("the first of all alike, though KEEP is 4", told("keep 4;" + PLAIN).bestKeep(12, 1), 0);
        for (int seed : SEEDS) {
            SparesHouse busy = busyHouse();
            int best = 0;
            for (int v = 1; v <= 4; v++) {
                if (busy.by(12, seed, 1, v) < busy.by(12, seed, 1, best)) {
                    best = v;
                }
            }
            due("bestKeep(12, " + seed + ")", busy.bestKeep(12, seed), best);
        }
    }

    private static void theLastDays() {
        says(35, "DAY would be above 9999");
        for (int day : new int[] {9986, 9987, 9988, 9998, 9999}) {
            SparesHouse house = told(PLAIN);
            goTo(house, day);
            for (int days = 1; days <= 12; days++) {
                boolean can = day + days <= 9999;
                due("would(" + days + ", 1, 0) of day " + day, house.would(days, 1, 0), can ? day + days : NONE);
                due("bestKeep(" + days + ", 1) of day " + day, house.bestKeep(days, 1), can ? 0 : NONE);
                due("spared(" + days + ", 1, 0, 0) of day " + day, house.spared(days, 1, 0, 0) == -100000 ? 0 : 1, can ? 1 : 0);
                for (int what = 0; what <= 2; what++) {
                    due("by(" + days + ", 1, " + what + ", 1) of day " + day, house.by(days, 1, what, 1) == NONE ? 0 : 1,
                        can ? 1 : 0);
                }
            }
            due("played(0)", house.played(0), day);
        }
    }

    // ---- promise 39

    private static void quietNow() {
        says(39, "DAY now, if nothing is now");
        SparesHouse house = new SparesHouse();
        due("quiet() of none", house.quiet(), 0);
        house.pass(30);
        due("quiet() of none", house.quiet(), 30);
        house = told("part 1 1 1;base 1;cell 0 0 1 0 0;");
        house.breaks(0, 0);
        due("quiet()", house.quiet(), 1);
        house.pass(1);
        due("quiet(): it came today", house.quiet(), 1);
        house.pass(1);
        due("quiet()", house.quiet(), 2);
    }

    private static void quietAsDaysGoBy() {
        says(39, "did DAYS go by and nothing BREAK, nothing were under way any more for the first time");
        SparesHouse house = busyHouse();
        int day = busyHouse().quiet();
        while (house.played(9) > 0) {
            due("quiet() on day " + house.played(0), house.quiet(), day);
            house.pass(1);
        }
        due("the day on which nothing is under way", house.played(0), day);
        due("quiet()", house.quiet(), day);
        // The want is lent for on day 1, 18 days, though the mended piece comes on day 2.
        house = told("part 1 2 1;base 9;base 9;cell 0 0 1 0 0;cell 1 0 1 0 1;");
        house.breaks(0, 0);
        due("quiet(): what will be lent counts", house.quiet(), 19);
        house.keep(1);
        due("quiet(): nothing is lent", house.quiet(), 2);
        // Odds don't matter: nothing breaks.
        due("quiet() by ODDS 12", told(PLAIN).quiet(), 0);
    }

    private static void quietOnTheLastDay() {
        says(39, "-2: not up to 9999");
        String text = "part 1 9 1;base 1;cell 0 0 8 0 0;";
        for (int day = 9989; day <= 9999; day++) {
            SparesHouse house = told(text);
            goTo(house, day);
            due("quiet() on day " + day, house.quiet(), day);
            house.breaks(0, 0);
            due("quiet() on day " + day + " behind a break", house.quiet(), day <= 9990 ? day + 9 : -2);
            due("played(0)", house.played(0), day);
        }
        for (int day = 9997; day <= 9999; day++) {
            for (int mend = 1; mend <= 3; mend++) {
                SparesHouse house = told("part 1 " + mend + " 1;base 1;cell 0 0 1 0 0;");
                goTo(house, day);
                house.breaks(0, 0);
                due("quiet() on day " + day + " by MEND " + mend, house.quiet(), day + mend <= 9999 ? day + mend : -2);
            }
        }
        // Nine days of SHIP, nine of WORK, nine of SHIP.
        for (int day = 9971; day <= 9974; day++) {
            SparesHouse house = told("part 1 0 9;base 9;cell 0 0 1 0 0;");
            goTo(house, day);
            house.breaks(0, 0);
            due("quiet() on day " + day, house.quiet(), day <= 9972 ? day + 27 : -2);
        }
        // What is lent a day later, 18 days.
        for (int day = 9979; day <= 9982; day++) {
            SparesHouse house = told("part 1 2 1;base 9;base 9;cell 0 0 1 0 0;cell 1 0 1 0 1;");
            goTo(house, day);
            house.breaks(0, 0);
            due("quiet() on day " + day, house.quiet(), day <= 9980 ? day + 19 : -2);
        }
    }

    // ---- nothing happens

    private static void nothingHappens() {
        says(35, "WERE: things are as they are but for what is told; nothing happens");
        Call[] asked = {h -> h.would(12, 7, 5), h -> h.spared(12, 7, 0, 0), h -> h.spared(12, 7, 1, 1), h -> h.by(12, 7, 0, 0),
            h -> h.by(12, 7, 1, 0), h -> h.by(12, 7, 2, 3), h -> h.bestKeep(12, 7), SparesHouse::quiet, h -> h.would(13, 7, 5),
            h -> h.would(1, 7, 11), h -> h.spared(0, 7, 0, 0), h -> h.spared(1, 7, 2, 0), h -> h.by(1, 7, 3, 0),
            h -> h.by(1, 7, 2, 4), h -> h.bestKeep(13, 7)};
        for (int i = 0; i < asked.length; i++) {
            changesNothing("were " + i, Checks::busy, asked[i], asked[i].of(busyHouse()));
        }
    }

    private static void fullHouse() {
        says(36, "one spare more than all there can be");
        StringBuilder text = new StringBuilder("part 1 0 9;".repeat(3) + "base 9;".repeat(3));
        for (int i = 0; i < 9; i++) {
            text.append("cell " + i / 3 + " " + i % 3 + " 8 12 9;");
        }
        SparesHouse house = told(text + "works 0 9;works 1 9;works 2 9;");
        for (int i = 0; i < 153; i++) {
            house.breaks(i / 51, i / 17 % 3);
        }
        due("played(9)", house.played(9), 180);
        for (int cell = 0; cell < 9; cell++) {
            // The spare fills one want on day 0; that unit breaks again on that day and is wanted as long.
            due("spared(8, 1) of cell " + cell, house.spared(8, 1, cell / 3, cell % 3), 0);
        }
        due("would(8, 1, 9)", house.would(8, 1, 9), 180);
        due("would(8, 1, 5)", house.would(8, 1, 5), 72 * 8);
        due("played(9)", house.played(9), 180);
    }
}
