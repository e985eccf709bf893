/** Boundary cases of the acts: promises 5 to 17, each act's bounds, refusals that change nothing, what undo can. */
public final class ActBoundsTests extends Checks {
    private static final String NINE = "part 1 0 1;".repeat(3) + "base 1;".repeat(3)
        + "cell 0 0 1 0 0;cell 1 0 1 0 0;cell 0 2 1 0 0;cell 2 2 1 0 0;";
    // Neither a base nor a part is there, though some would name the place of one that is.
    private static final int[][] NO_CELLS = {{-1, 0}, {0, -1}, {3, 0}, {0, 3}, {3, 3}, {0, 4}, {1, -4}, {-1, 4}, {-1, 8},
        {0, 8}, {2, 6}, {3, -4}, {DEEP, 0}, {0, DEEP}, {FAR, 0}, {0, FAR}, {DEEP, DEEP}, {FAR, FAR}, {1 << 30, 0}, {0, 1 << 16}};

    public static void main(String[] args) {
        breaksWhere();
        breaksUnits();
        breaksHandOrWant();
        breaksMendedOrSent();
        passDays();
        passToTheLastDay();
        comesOnItsDay();
        lentPiecesComeOnTheirDay();
        comesByNumbers();
        benchesAndThoseThatWait();
        offABenchFirst();
        piecesFillTheOldestWant();
        ruleOneEdges();
        lentAboveKeep();
        lentByTheNearest();
        lentBehindWhatComes();
        lentOnce();
        runDays();
        runToTheLastDay();
        runDraws();
        runIfItCan();
        buyBounds();
        sellBounds();
        supplyBounds();
        setBounds();
        setFromNowOn();
        oddsBounds();
        benchesBounds();
        benchesMoreAndFewer();
        keepBounds();
        ruleTurns();
        beginEdges();
        refusedActsOfABusyHouse();
        actsCount();
        undoTwelve();
        undoRound();
        undoAndTexts();
        fiveHundredTwelveCalls();
        end("ActBoundsTests");
    }

    // ---- promise 5

    private static void breaksWhere() {
        says(5, "NONE, and nothing happens: no such CELL");
        for (int[] none : NO_CELLS) {
            changesNothing("breaks(" + none[0] + ", " + none[1] + ")", house -> tell(house, NINE),
                house -> house.breaks(none[0], none[1]), NONE);
        }
        due("breaks(0, 0)", told(NINE).breaks(0, 0), 0);
        due("breaks(2, 2)", told(NINE).breaks(2, 2), 0);
        due("a part, no base", told("part 1 0 1;").breaks(0, 0), NONE);
        due("a base, no part", told("base 1;").breaks(0, 0), NONE);
        due("neither", new SparesHouse().breaks(0, 0), NONE);
    }

    private static void breaksUnits() {
        says(5, "NONE, and nothing happens: it has not fewer HOLES than UNITS");
        changesNothing("breaks without units", house -> tell(house, "part 1 0 1;base 1;cell 0 0 0 12 9;"),
            house -> house.breaks(0, 0), NONE);
        for (int units = 1; units <= 8; units++) {
            SparesHouse house = told("part 1 9 1;base 1;cell 0 0 " + units + " 0 0;");
            for (int i = 0; i < units; i++) {
                due("breaks(0, 0) of " + units, house.breaks(0, 0), i);
                due("cell(0, 0, 4)", house.cell(0, 0, 4), i + 1);
            }
            due("breaks(0, 0) beyond " + units, house.breaks(0, 0), NONE);
            due("cell(0, 0, 4)", house.cell(0, 0, 4), units);
            due("played(1)", house.played(1), units);
            due("count(5)", house.count(5), units);
            due("count(9)", house.count(9), units);
        }
        SparesHouse house = told("part 1 1 1;base 1;cell 0 0 1 0 0;");
        house.breaks(0, 0);
        due("breaks(0, 0)", house.breaks(0, 0), NONE);
        house.pass(1);
        due("breaks(0, 0): the hole is filled", house.breaks(0, 0), 1);
        house = told("part 1 9 1;base 1;base 1;cell 0 0 1 0 0;cell 1 0 2 0 0;");
        house.breaks(1, 0);
        due("another cell's hole does not count", house.breaks(0, 0), 1);
        due("breaks(1, 0)", house.breaks(1, 0), 2);
        due("breaks(1, 0)", house.breaks(1, 0), NONE);
    }

    private static void breaksHandOrWant() {
        says(5, "if its HAND has pieces, it has one less; else there is a HOLE more and a WANT");
        SparesHouse house = told("part 1 9 1;base 1;cell 0 0 8 0 9;");
        for (int i = 0; i < 17; i++) {
            due("breaks(0, 0)", house.breaks(0, 0), i);
            due("cell(0, 0, 3)", house.cell(0, 0, 3), Math.max(8 - i, 0));
            due("cell(0, 0, 4)", house.cell(0, 0, 4), Math.max(i - 8, 0));
            due("played(2)", house.played(2), Math.min(i + 1, 9));
            due("played(3)", house.played(3), Math.max(i - 8, 0));
        }
        due("breaks(0, 0): nine from hand, eight holes", house.breaks(0, 0), NONE);
        due("cell(0, 0, 2): STOCK stays", house.cell(0, 0, 2), 9);
    }

    private static void breaksMendedOrSent() {
        says(5, "if MEND is 1 or more, it is MENDED there; else it is SENT, and the BASE has a CALL more");
        for (int mend = 0; mend <= 9; mend++) {
            SparesHouse house = told("part 1 " + mend + " 1;base 9;cell 0 0 1 0 0;");
            due("breaks(0, 0)", house.breaks(0, 0), 0);
            due("way(0, 0) by MEND " + mend, house.way(0, 0), mend == 0 ? 1 : 0);
            due("way(0, 4) by MEND " + mend, house.way(0, 4), mend == 0 ? 9 : mend);
            due("part(0, 5) by MEND " + mend, house.part(0, 5), mend == 0 ? 1 : 0);
        }
        says(5, "the number of its WAY");
        SparesHouse house = told("part 1 0 1;base 1;cell 0 0 8 0 0;works 0 2;");
        due("breaks(0, 0)", house.breaks(0, 0), 0);
        due("breaks(0, 0) behind one SHIPPED", house.breaks(0, 0), 2);
        due("breaks(0, 0) behind two SHIPPED", house.breaks(0, 0), 4);
        due("breaks(0, 0) without a HAND at the works", house.breaks(0, 0), 5);
        due("count(9)", house.count(9), 6);
        house.begin();
        due("breaks(0, 0) as it began", house.breaks(0, 0), 0);
    }

    // ---- promise 6

    private static void passDays() {
        says(6, "DAYS go by (1 .. 30); NONE, and nothing happens: others");
        for (int days = 1; days <= 30; days++) {
            due("pass(" + days + ")", new SparesHouse().pass(days), days);
        }
        for (int days : new int[] {0, -1, -30, DEEP, DEEP + 1, 31, 32, 9999, 10000, 65537, FAR - 1, FAR}) {
            changesNothing("pass(" + days + ")", Checks::busy, house -> house.pass(days), NONE);
        }
    }

    private static void passToTheLastDay() {
        says(6, "it would be above 9999");
        String text = "part 1 9 1;base 1;cell 0 0 1 0 0;";
        for (int day = 9968; day <= 9999; day++) {
            SparesHouse house = told(text);
            goTo(house, day);
            int most = Math.min(9999 - day, 30);
            if (most < 30) {
                due("pass(" + (most + 1) + ") of day " + day, house.pass(most + 1), NONE);
                due("pass(30) of day " + day, house.pass(30), NONE);
                due("played(0)", house.played(0), day);
            }
            due("pass(" + most + ") of day " + day, house.pass(most), most == 0 ? NONE : day + most);
            due("played(0)", house.played(0), day + most);
        }
        changesNothing("pass(1) of the last day", house -> {
            tell(house, text);
            goTo(house, 9999);
            house.breaks(0, 0);
        }, house -> house.pass(1), NONE);
    }

    private static void comesOnItsDay() {
        says(6, "comes on the DAY so many DAYS behind that: MENDED");
        for (int mend = 1; mend <= 9; mend++) {
            SparesHouse house = told("part 1 " + mend + " 1;base 1;cell 0 0 1 0 0;");
            house.breaks(0, 0);
            for (int day = 1; day <= mend; day++) {
                house.pass(1);
                due("cell(0, 0, 4) on day " + day + " by MEND " + mend, house.cell(0, 0, 4), day < mend ? 1 : 0);
                due("cell(0, 0, 7) on day " + day + " by MEND " + mend, house.cell(0, 0, 7), day < mend ? 1 : 0);
            }
        }
        says(6, "comes on the DAY so many DAYS behind that: SENT, on a BENCH, SHIPPED");
        for (int ship : new int[] {1, 2, 9}) {
            for (int work : new int[] {1, 2, 9}) {
                SparesHouse house = told("part 1 0 " + work + ";base " + ship + ";cell 0 0 1 0 0;");
                house.breaks(0, 0);
                for (int day = 0; day <= 2 * ship + work; day++) {
                    String on = " on day " + day + " by SHIP " + ship + ", WORK " + work;
                    due("part(0, 8)" + on, house.part(0, 8), day < ship ? 1 : 0);
                    due("part(0, 7)" + on, house.part(0, 7), day >= ship && day < ship + work ? 1 : 0);
                    due("part(0, 5)" + on, house.part(0, 5), day < ship + work ? 1 : 0);
                    due("base(0, 3)" + on, house.base(0, 3), day >= ship + work && day < 2 * ship + work ? 1 : 0);
                    due("played(3)" + on, house.played(3), day < 2 * ship + work ? 1 : 0);
                    house.pass(1);
                }
            }
        }
    }

    private static void lentPiecesComeOnTheirDay() {
        says(6, "a piece is LENT to the WANT's BASE, both SHIPS together DAYS");
        for (int mine = 1; mine <= 9; mine += 4) {
            for (int other = 1; other <= 9; other += 4) {
                SparesHouse house = told("part 1 0 9;base " + mine + ";base " + other + ";cell 0 0 1 0 0;cell 1 0 1 0 1;");
                house.breaks(0, 0);
                house.set(0, 2, 1);
                due("cell(0, 0, 6) on day 0", house.cell(0, 0, 6), 0);
                house.pass(1);
                due("cell(0, 0, 8) on day 1", house.cell(0, 0, 8), 1);
                due("cell(1, 0, 8) on day 1", house.cell(1, 0, 8), -1);
                int found = NONE;
                for (int k = 0; k < house.played(9); k++) {
                    if (house.way(k, 0) == 4) {
                        found = house.way(k, 4);
                        due("the BASE to which it goes", house.way(k, 3), 0);
                    }
                }
                due("comes by SHIPS " + mine + " and " + other, found, 1 + mine + other);
            }
        }
    }

    private static void comesByNumbers() {
        says(6, "what comes on it comes, by numbers of WAYS");
        SparesHouse house = told("part 1 0 9;part 1 0 9;base 3;base 1;cell 0 0 1 0 1;cell 1 1 1 0 1;");
        due("breaks(0, 0)", house.breaks(0, 0), 0);
        house.pass(2);
        due("breaks(1, 1)", house.breaks(1, 1), 1);
        house.pass(1);
        due("the first by number is on the bench", house.part(0, 7), 1);
        due("the other one waits", house.waits(0), 1);
        house = told("part 1 0 9;part 1 0 9;base 1;base 1;cell 0 0 1 0 1;cell 1 1 1 0 1;");
        due("breaks(1, 1)", house.breaks(1, 1), 0);
        due("breaks(0, 0)", house.breaks(0, 0), 1);
        house.pass(1);
        due("by numbers, not by bases or parts", house.part(1, 7), 1);
        due("the other one waits", house.waits(0), 0);
    }

    private static void benchesAndThoseThatWait() {
        says(6, "As long as fewer WAYS are on BENCHES than there are BENCHES, the first that waits begins on one");
        for (int benches = 1; benches <= 3; benches++) {
            for (int pieces = 0; pieces <= 5; pieces++) {
                SparesHouse house = told("benches " + benches + ";part 1 0 2;base 1;cell 0 0 8 0 9;");
                for (int i = 0; i < pieces; i++) {
                    house.breaks(0, 0);
                }
                String of = " of " + pieces + " by BENCHES " + benches;
                house.pass(1);
                due("part(0, 7)" + of, house.part(0, 7), Math.min(pieces, benches));
                due("part(0, 6)" + of, house.part(0, 6), Math.max(pieces - benches, 0));
                house.pass(2);
                due("the next ones" + of, house.part(0, 7), Math.min(Math.max(pieces - benches, 0), benches));
                due("that wait" + of, house.part(0, 6), Math.max(pieces - 2 * benches, 0));
            }
        }
    }

    private static void offABenchFirst() {
        says(6, "A piece that comes off a BENCH: .. then, behind what that brings, the next one that waits may begin");
        // The bench's way is number 2: base 0's piece (number 0) comes ahead of it on day 3 and has to wait.
        SparesHouse house = told("part 1 0 2;base 3;base 1;cell 0 0 1 0 1;cell 1 0 1 0 1;");
        house.breaks(0, 0);
        house.breaks(1, 0);
        house.pass(2);
        due("on the bench", house.way(1, 1), 2);
        house.pass(1);
        due("way(0, 0): begins behind the SHIPPED one", house.way(0, 0), 2);
        due("way(0, 1)", house.way(0, 1), 4);
        due("way(0, 4)", house.way(0, 4), 5);
        due("way(1, 0): SHIPPED to base 0, which called first", house.way(1, 0), 3);
        due("way(1, 1)", house.way(1, 1), 3);
        due("way(1, 3)", house.way(1, 3), 0);
        due("waits(0)", house.waits(0), NONE);
        // The other way round: the bench is free as the piece comes.
        house = told("part 1 0 2;part 1 0 9;base 1;cell 0 0 2 0 2;cell 0 1 1 0 1;");
        house.breaks(0, 0);
        house.pass(2);
        due("breaks(0, 1)", house.breaks(0, 1), 2);
        house.pass(1);
        due("way(0, 0)", house.way(0, 0), 3);
        due("way(0, 1)", house.way(0, 1), 3);
        due("way(1, 0)", house.way(1, 0), 2);
        due("way(1, 1)", house.way(1, 1), 4);
        due("way(1, 4)", house.way(1, 4), 12);
        says(6, "the works' HAND of its PART has one more: without CALLS it stays there");
        house = told("part 1 0 1;base 1;cell 0 0 1 0 1;works 0 1;");
        house.breaks(0, 0);
        due("part(0, 4): handed out at once", house.part(0, 4), 0);
        house.pass(2);
        due("part(0, 4): off the bench", house.part(0, 4), 1);
        due("played(8)", house.played(8), 1);
    }

    private static void piecesFillTheOldestWant() {
        says(6, "A piece that comes to a CELL fills the oldest WANT of that CELL; else its HAND has one more");
        SparesHouse house = told("keep 4;part 1 3 1;base 1;base 1;cell 0 0 2 0 0;cell 1 0 1 0 0;");
        house.breaks(1, 0);
        house.pass(1);
        house.set(0, 1, 1);
        house.breaks(0, 0);
        house.set(0, 1, 9);
        house.pass(1);
        due("base 0's want is filled, not base 1's older one", house.cell(0, 0, 4), 0);
        due("cell(1, 0, 4)", house.cell(1, 0, 4), 1);
        due("played(5)", house.played(5), 3);
        house.breaks(0, 0);
        house.pass(1);
        due("base 1's", house.cell(1, 0, 4), 0);
        house.breaks(0, 0);
        due("want(0, 2)", house.want(0, 2), 2);
        due("want(1, 2)", house.want(1, 2), 3);
        house.buy(0, 0);
        due("the older of both was filled", house.want(0, 2), 3);
        due("cell(0, 0, 4)", house.cell(0, 0, 4), 1);
        house.buy(0, 0);
        due("no want: in HAND", house.cell(0, 0, 3), 0);
        house.buy(0, 0);
        due("no want: in HAND", house.cell(0, 0, 3), 1);
    }

    private static void ruleOneEdges() {
        says(6, "by RULE 1 of the BASES that have CALLS of that PART those that have most WANTS of it");
        // Base 1 has two wants but no calls: its pieces are mended.
        SparesHouse house = told("rule 1;part 1 9 1;base 1;base 1;cell 0 0 1 0 1;cell 1 0 2 0 0;");
        house.breaks(1, 0);
        house.breaks(1, 0);
        house.set(0, 1, 0);
        house.breaks(0, 0);
        house.supply(0);
        due("a base without calls gets nothing", house.cell(1, 0, 6), 0);
        due("cell(0, 0, 6)", house.cell(0, 0, 6), 1);
        house = told("rule 1;part 1 9 1;base 1;base 1;cell 0 0 2 0 0;cell 1 0 1 0 1;");
        house.breaks(0, 0);
        house.breaks(0, 0);
        house.set(0, 1, 0);
        house.breaks(1, 0);
        house.supply(0);
        due("base 0 without calls gets nothing", house.cell(0, 0, 6), 0);
        due("cell(1, 0, 6)", house.cell(1, 0, 6), 1);
        // Base 1 has more wants, but of another part.
        house = told("rule 1;part 1 0 1;part 1 9 1;base 1;base 1;cell 0 0 1 0 1;cell 1 0 1 0 1;cell 1 1 3 0 0;");
        house.breaks(1, 1);
        house.breaks(1, 1);
        house.breaks(0, 0);
        house.breaks(1, 0);
        house.supply(0);
        due("wants of another part don't count", house.cell(0, 0, 6), 1);
        house.supply(0);
        due("then the other one", house.cell(1, 0, 6), 1);
        says(6, "of these BASES' CALLS the oldest");
        house = told("rule 1;part 1 0 1;base 1;base 1;cell 0 0 2 0 0;cell 1 0 2 0 0;");
        house.breaks(1, 0);
        house.breaks(0, 0);
        house.supply(0);
        due("as many wants: the oldest call", house.cell(1, 0, 6), 1);
        due("cell(0, 0, 6)", house.cell(0, 0, 6), 0);
        says(6, "by RULE 0 the oldest one of that PART");
        house = told("part 1 0 1;part 1 0 1;base 1;base 1;cell 0 0 3 0 0;cell 1 0 3 0 0;cell 0 1 1 0 0;");
        house.breaks(0, 1);
        house.breaks(1, 0);
        house.breaks(0, 0);
        house.breaks(0, 0);
        house.supply(0);
        due("cell(1, 0, 6)", house.cell(1, 0, 6), 1);
        due("call(1, 0, 0): another part's call stays", house.call(1, 0, 0), 0);
    }

    private static void lentAboveKeep() {
        says(6, "the other BASE whose HAND of that PART is above KEEP");
        for (int keep = 0; keep <= 4; keep++) {
            for (int stock = 0; stock <= 9; stock++) {
                SparesHouse house = told("keep " + keep + ";part 1 9 1;base 1;base 1;cell 0 0 3 0 0;cell 1 0 1 0 " + stock + ";");
                house.breaks(0, 0);
                house.breaks(0, 0);
                house.pass(1);
                int lent = Math.min(Math.max(stock - keep, 0), 2);
                String by = " by KEEP " + keep + ", STOCK " + stock;
                due("played(7)" + by, house.played(7), lent);
                due("cell(1, 0, 3)" + by, house.cell(1, 0, 3), stock - lent);
                due("want(0, 3): the oldest first" + by, house.want(0, 3), lent > 0 ? 1 : 0);
                due("want(1, 3)" + by, house.want(1, 3), lent > 1 ? 1 : 0);
            }
        }
        says(6, "another PART's HAND is not lent, and there is no other BASE");
        SparesHouse house = told("part 1 9 1;part 1 9 1;base 1;base 1;cell 0 0 1 0 0;cell 1 1 1 0 9;cell 0 1 1 0 9;");
        house.breaks(0, 0);
        house.pass(1);
        due("played(7)", house.played(7), 0);
        house = told("part 1 9 1;base 1;cell 0 0 1 0 0;");
        house.breaks(0, 0);
        house.pass(1);
        due("played(7)", house.played(7), 0);
    }

    private static void lentByTheNearest() {
        says(6, "of several the one of least SHIP, then the first");
        int[][] cases = {{5, 5, 5, 0}, {5, 5, 4, 2}, {5, 5, 9, 0}, {4, 5, 5, 0}, {9, 1, 9, 0}, {9, 9, 8, 2}, {1, 9, 9, 0}};
        for (int[] one : cases) {
            SparesHouse house = told("part 1 9 1;base " + one[0] + ";base " + one[1] + ";base " + one[2]
                + ";cell 0 0 1 0 1;cell 1 0 1 0 0;cell 2 0 1 0 1;");
            house.breaks(1, 0);
            house.pass(1);
            due("lends by SHIPS " + one[0] + " and " + one[2], house.cell(one[3], 0, 8), -1);
            due("cell(1, 0, 8)", house.cell(1, 0, 8), 1);
            due("played(7)", house.played(7), 1);
        }
        // The nearest one has nothing above KEEP.
        SparesHouse house = told("keep 1;part 1 9 1;base 5;base 1;base 9;cell 0 0 1 0 0;cell 1 0 1 0 1;cell 2 0 1 0 2;");
        house.breaks(0, 0);
        house.pass(1);
        due("base 2 lends", house.cell(2, 0, 8), -1);
        due("cell(1, 0, 8)", house.cell(1, 0, 8), 0);
    }

    private static void lentBehindWhatComes() {
        says(6, "what comes on it comes; then pieces are LENT");
        SparesHouse house = told("part 1 9 1;base 1;base 1;cell 0 0 1 0 0;cell 1 0 1 0 1;");
        house.breaks(0, 0);
        house.set(0, 1, 1);
        house.breaks(1, 0);
        due("cell(1, 0, 3)", house.cell(1, 0, 3), 0);
        house.pass(1);
        due("what came on that day is lent on it", house.played(7), 1);
        due("cell(1, 0, 3)", house.cell(1, 0, 3), 0);
        house = told("part 1 1 1;base 1;base 1;cell 0 0 1 0 0;cell 1 0 1 0 1;");
        house.breaks(0, 0);
        house.pass(1);
        due("a want that was filled is not lent for", house.played(7), 0);
        due("cell(1, 0, 3)", house.cell(1, 0, 3), 1);
    }

    private static void lentOnce() {
        says(6, "for each WANT that was not lent for yet");
        SparesHouse house = told("part 1 9 1;base 9;base 9;cell 0 0 2 0 0;cell 1 0 1 0 3;");
        house.breaks(0, 0);
        house.pass(8);
        due("lent once in eight days", house.played(7), 1);
        house.breaks(0, 0);
        house.pass(1);
        due("the second want has its own", house.played(7), 2);
        due("the first one was filled by the mended piece", house.played(4), 1);
        house.pass(8);
        // Day 17: the other mended one; day 19 and 27: the lent ones come to hand.
        due("played(3)", house.played(3), 0);
        due("cell(0, 0, 3)", house.cell(0, 0, 3), 0);
        house.pass(2);
        due("cell(0, 0, 3) on day 19", house.cell(0, 0, 3), 1);
        house.pass(8);
        due("cell(0, 0, 3) on day 27", house.cell(0, 0, 3), 2);
        due("played(7): nothing is given back", house.played(7), 2);
        due("cell(0, 0, 8)", house.cell(0, 0, 8), 2);
        due("cell(1, 0, 8)", house.cell(1, 0, 8), -2);
    }

    // ---- promise 7

    private static void runDays() {
        says(7, "A RUN (1 .. 30 DAYS); NONE, and nothing happens: others");
        for (int days = 1; days <= 30; days++) {
            SparesHouse house = new SparesHouse();
            due("run(" + days + ", 1)", house.run(days, 1), 0);
            due("played(0)", house.played(0), days);
        }
        for (int days : new int[] {0, -1, -30, DEEP, 31, 32, 9999, 65537, FAR}) {
            changesNothing("run(" + days + ", 1)", Checks::busy, house -> house.run(days, 1), NONE);
        }
    }

    private static void runToTheLastDay() {
        says(7, "DAY would be above 9999");
        String text = "part 1 9 1;base 1;cell 0 0 8 12 9;";
        for (int day : new int[] {9969, 9970, 9987, 9998, 9999}) {
            SparesHouse house = told(text);
            goTo(house, day);
            int most = 9999 - day;
            due("run(" + (most + 1) + ", 1) of day " + day, house.run(most + 1, 1), NONE);
            due("played(1)", house.played(1), 0);
            int broke = house.run(most, 1);
            due("run(" + most + ", 1) of day " + day, Math.min(broke, 1), most == 0 ? NONE : 1);
            due("played(0)", house.played(0), 9999);
        }
        changesNothing("run(30, 1) of day 9970", house -> {
            tell(house, text);
            goTo(house, 9970);
        }, house -> house.run(30, 1), NONE);
    }

    private static void runDraws() {
        says(7, "x becomes x * 1103515245 + 12345 (an int, wrapping), the draw is (x >>> 8) % 12: if it is below ODDS");
        int[][] first = {{0, 0}, {1, 2}, {-1, 1}, {7, 1}, {FAR, 5}, {DEEP, 8}, {12345, 6}, {6, 10}, {5, 8}};
        for (int[] one : first) {
            for (int odds = 0; odds <= 12; odds++) {
                SparesHouse house = told("part 1 9 1;base 1;cell 0 0 1 " + odds + " 0;");
                due("run(1, " + one[0] + ") by ODDS " + odds, house.run(1, one[0]), one[1] < odds ? 1 : 0);
            }
        }
        for (int seed : new int[] {0, 1, -1, 7, FAR, DEEP, -12345, 1 << 30}) {
            drawsBySeed(seed);
        }
        says(7, "ODDS 0 never, ODDS 12 always");
        due("ODDS 0", told("part 1 9 1;base 1;cell 0 0 8 0 9;").run(30, 5), 0);
        due("ODDS 12", told("part 1 1 1;base 1;cell 0 0 8 12 9;").run(30, 5), 30);
    }

    /** Nine cells by ODDS 6 and pieces enough: what breaks in four days, by draws of longs. */
    private static void drawsBySeed(int seed) {
        StringBuilder text = new StringBuilder("keep 4;" + "part 1 9 1;".repeat(3) + "base 1;".repeat(3));
        for (int i = 0; i < 9; i++) {
            text.append("cell " + i / 3 + " " + i % 3 + " 8 6 9;");
        }
        SparesHouse house = told(text.toString());
        int[] broke = new int[9];
        int all = 0;
        long x = seed & 0xffffffffL;
        for (int i = 0; i < 36; i++) {
            x = (x * 1103515245L + 12345L) & 0xffffffffL;
            if ((x >> 8) % 12 < 6) {
                broke[i % 9]++;
                all++;
            }
        }
        due("run(4, " + seed + ")", house.run(4, seed), all);
        for (int i = 0; i < 9; i++) {
            due("broken of cell " + i + " by seed " + seed, house.cell(i / 3, i % 3, 7), broke[i]);
        }
    }

    private static void runIfItCan() {
        says(7, "a piece BREAKS there, if it can; how many pieces broke");
        // Its one unit breaks on days 0, 9, 18, 27: mended, it is back as a day begins.
        int[][] cases = {{1, 1}, {9, 1}, {10, 2}, {18, 2}, {19, 3}, {27, 3}, {28, 4}, {30, 4}};
        for (int[] one : cases) {
            SparesHouse house = told("part 1 9 1;base 1;cell 0 0 1 12 0;");
            due("run(" + one[0] + ", 3)", house.run(one[0], 3), one[1]);
            due("played(1)", house.played(1), one[1]);
        }
        due("no units", told("part 1 9 1;base 1;cell 0 0 0 12 9;").run(30, 3), 0);
        due("a part, no base", told("part 1 9 1;").run(30, 3), 0);
        due("a base, no part", told("base 1;").run(30, 3), 0);
        says(7, "how many pieces broke: of this RUN alone");
        SparesHouse house = told("part 1 9 1;base 1;cell 0 0 8 12 9;");
        house.breaks(0, 0);
        due("run(2, 3)", house.run(2, 3), 2);
        due("run(3, 3)", house.run(3, 3), 3);
        due("played(1)", house.played(1), 6);
    }

    // ---- promises 8 to 10

    private static void buyBounds() {
        says(8, "STOCK then; NONE, and nothing happens: no such CELL, it is 9");
        SparesHouse house = told(NINE);
        for (int i = 1; i <= 9; i++) {
            due("buy(2, 2)", house.buy(2, 2), i);
            due("cell(2, 2, 2)", house.cell(2, 2, 2), i);
            due("cell(2, 2, 3)", house.cell(2, 2, 3), i);
        }
        due("buy(2, 2) of nine", house.buy(2, 2), NONE);
        due("cell(2, 2, 2)", house.cell(2, 2, 2), 9);
        due("cell(2, 2, 3)", house.cell(2, 2, 3), 9);
        due("another cell's", house.buy(2, 1), 1);
        for (int[] none : NO_CELLS) {
            changesNothing("buy(" + none[0] + ", " + none[1] + ")", h -> tell(h, NINE), h -> h.buy(none[0], none[1]), NONE);
        }
        changesNothing("buy though there is a want", h -> {
            tell(h, "part 1 9 1;base 1;cell 0 0 1 0 9;");
            for (int i = 0; i < 10; i++) {
                h.breaks(0, 0);
            }
        }, h -> h.buy(0, 0), NONE);
        says(8, "comes there, as a piece that comes");
        house = told("part 1 9 1;base 1;cell 0 0 2 0 8;");
        due("buy(0, 0)", house.buy(0, 0), 9);
        due("cell(0, 0, 3)", house.cell(0, 0, 3), 9);
        due("buy(0, 0)", house.buy(0, 0), NONE);
        house = told("part 1 9 1;base 1;cell 0 0 2 0 0;");
        house.breaks(0, 0);
        due("buy(0, 0)", house.buy(0, 0), 1);
        due("played(4): filled on its day", house.played(4), 1);
        due("played(5)", house.played(5), 0);
        due("cell(0, 0, 3)", house.cell(0, 0, 3), 0);
        due("cell(0, 0, 4)", house.cell(0, 0, 4), 0);
        house.pass(9);
        due("the mended one comes to hand", house.cell(0, 0, 3), 1);
    }

    private static void sellBounds() {
        says(9, "STOCK then; NONE, and nothing happens: no such CELL, one of both is 0");
        SparesHouse house = told(NINE + "cell 2 2 1 0 9;");
        for (int i = 8; i >= 0; i--) {
            due("sell(2, 2)", house.sell(2, 2), i);
            due("cell(2, 2, 2)", house.cell(2, 2, 2), i);
            due("cell(2, 2, 3)", house.cell(2, 2, 3), i);
        }
        due("sell(2, 2) of none", house.sell(2, 2), NONE);
        due("cell(2, 2, 2)", house.cell(2, 2, 2), 0);
        due("cell(2, 2, 3)", house.cell(2, 2, 3), 0);
        for (int[] none : NO_CELLS) {
            changesNothing("sell(" + none[0] + ", " + none[1] + ")", h -> tell(h, NINE + "cell 0 0 1 0 5;cell 1 0 1 0 5;"),
                h -> h.sell(none[0], none[1]), NONE);
        }
        changesNothing("sell: STOCK 9, HAND 0", h -> {
            tell(h, "part 1 9 1;base 1;cell 0 0 1 0 9;");
            for (int i = 0; i < 9; i++) {
                h.breaks(0, 0);
            }
        }, h -> h.sell(0, 0), NONE);
        Recipe lent = h -> {
            tell(h, "part 1 3 1;base 1;base 2;cell 0 0 1 0 0;cell 1 0 1 0 1;");
            h.breaks(0, 0);
            h.pass(4);
        };
        // The lent piece came on day 4 and nobody wanted it any more.
        changesNothing("sell: STOCK 0, HAND 1", lent, h -> h.sell(0, 0), NONE);
        changesNothing("sell: STOCK 1, HAND 0", lent, h -> h.sell(1, 0), NONE);
        SparesHouse one = new SparesHouse();
        lent.play(one);
        due("cell(0, 0, 3)", one.cell(0, 0, 3), 1);
        due("cell(1, 0, 2)", one.cell(1, 0, 2), 1);
        due("buy(0, 0)", one.buy(0, 0), 1);
        due("sell(0, 0): STOCK 1, HAND 2", one.sell(0, 0), 0);
        due("sell(0, 0): STOCK 0, HAND 1", one.sell(0, 0), NONE);
        due("cell(0, 0, 3)", one.cell(0, 0, 3), 1);
    }

    private static void supplyBounds() {
        says(10, "that STOCK then; NONE, and nothing happens: no such PART, it is 9");
        SparesHouse house = told(NINE);
        for (int i = 1; i <= 9; i++) {
            due("supply(2)", house.supply(2), i);
            due("part(2, 3)", house.part(2, 3), i);
            due("part(2, 4)", house.part(2, 4), i);
        }
        due("supply(2) of nine", house.supply(2), NONE);
        due("part(2, 4)", house.part(2, 4), 9);
        due("another part's", house.supply(0), 1);
        for (int part : new int[] {-1, 3, 4, DEEP, FAR, 256, 1 << 30}) {
            changesNothing("supply(" + part + ")", h -> tell(h, NINE), h -> h.supply(part), NONE);
        }
        due("supply(0) without parts", new SparesHouse().supply(0), NONE);
        due("supply(1) of one part", told("part 1 0 1;base 1;base 1;").supply(1), NONE);
        changesNothing("supply though there is a call", h -> {
            tell(h, "part 1 0 9;base 9;cell 0 0 1 0 9;works 0 9;");
            for (int i = 0; i < 10; i++) {
                h.breaks(0, 0);
            }
        }, h -> h.supply(0), NONE);
        says(10, "comes to their HAND: as soon as it has pieces and there are CALLS");
        house = told("part 1 0 9;base 9;cell 0 0 2 0 0;works 0 8;");
        due("supply(0)", house.supply(0), 9);
        due("part(0, 4)", house.part(0, 4), 9);
        due("supply(0)", house.supply(0), NONE);
        house = told("part 1 0 9;base 9;cell 0 0 2 0 0;");
        house.breaks(0, 0);
        due("supply(0)", house.supply(0), 1);
        due("part(0, 4): shipped at once", house.part(0, 4), 0);
        due("part(0, 5)", house.part(0, 5), 0);
        due("played(8)", house.played(8), 1);
        due("supply(0)", house.supply(0), 2);
        due("part(0, 4): no call is left", house.part(0, 4), 1);
    }

    // ---- promises 11 and 12

    private static void setBounds() {
        says(11, "which it was; NONE: no such ones, out of bounds, it is so");
        int[][] bounds = {{1, 30}, {0, 9}, {1, 9}};
        int[] was = {7, 4, 6};
        String text = "part 1 0 1;part 7 4 6;base 1;";
        for (int what = 0; what <= 2; what++) {
            for (int v = -2; v <= 33; v++) {
                SparesHouse house = told(text);
                boolean taken = v >= bounds[what][0] && v <= bounds[what][1] && v != was[what];
                due("set(1, " + what + ", " + v + ")", house.set(1, what, v), taken ? was[what] : NONE);
                due("part(1, " + what + ")", house.part(1, what), taken ? v : was[what]);
                due("count(5)", house.count(5), taken ? 1 : 0);
            }
            for (int v : new int[] {DEEP, FAR, 256 + 5, 65536 + 5}) {
                due("set(1, " + what + ", " + v + ")", told(text).set(1, what, v), NONE);
            }
        }
        for (int what : new int[] {-1, 3, 4, -3, DEEP, FAR}) {
            changesNothing("set(1, " + what + ", 5)", h -> tell(h, text), h -> h.set(1, what, 5), NONE);
        }
        for (int part : new int[] {-1, 2, 3, 4, DEEP, FAR}) {
            changesNothing("set(" + part + ", 0, 5)", h -> tell(h, text), h -> h.set(part, 0, 5), NONE);
        }
        due("set(0, 0, 5) without parts", new SparesHouse().set(0, 0, 5), NONE);
        due("set(2, 2, 5): the last part", told(NINE).set(2, 2, 5), 1);
    }

    private static void setFromNowOn() {
        says(11, "from now on (what is under way stays)");
        SparesHouse house = told("part 1 0 9;base 1;cell 0 0 8 0 9;");
        house.breaks(0, 0);
        house.breaks(0, 0);
        house.pass(1);
        due("set(0, 2, 1)", house.set(0, 2, 1), 9);
        due("what is on a bench stays", house.way(0, 4), 10);
        house.pass(9);
        due("what waited takes the new WORK", house.way(1, 4), 11);
        due("way(1, 0), behind the SHIPPED one", house.way(1, 0), 2);
        due("set(0, 1, 1)", house.set(0, 1, 1), 0);
        house.breaks(0, 0);
        due("mended from now on", house.cell(0, 0, 7), 1);
        due("set(0, 1, 0)", house.set(0, 1, 0), 1);
        due("what is mended stays", house.cell(0, 0, 7), 1);
        house.breaks(0, 0);
        due("sent from now on", house.part(0, 8), 1);
        says(11, "PRICE of what is bought from now on");
        house = told("part 1 0 1;base 1;cell 0 0 1 12 0;");
        due("bought(1, 0)", house.bought(1, 0), 1);
        due("set(0, 0, 2)", house.set(0, 0, 2), 1);
        due("bought(1, 0)", house.bought(1, 0), 0);
        due("best(1, 0, 0)", house.best(1, 0, 0), 0);
        due("set(0, 0, 1)", house.set(0, 0, 1), 2);
        due("best(1, 0, 0)", house.best(1, 0, 0), 1);
    }

    private static void oddsBounds() {
        says(12, "which they were; NONE: no such CELL, out of bounds, it is so");
        for (int v = -2; v <= 15; v++) {
            SparesHouse house = told(NINE + "cell 2 2 1 7 0;");
            boolean taken = v >= 0 && v <= 12 && v != 7;
            due("odds(2, 2, " + v + ")", house.odds(2, 2, v), taken ? 7 : NONE);
            due("cell(2, 2, 1)", house.cell(2, 2, 1), taken ? v : 7);
            due("count(5)", house.count(5), taken ? 1 : 0);
            due("lacks()", house.lacks(), (taken ? v : 7) * TO_8 / 12);
        }
        for (int v : new int[] {DEEP, FAR, 256, 268}) {
            changesNothing("odds(0, 0, " + v + ")", h -> tell(h, NINE), h -> h.odds(0, 0, v), NONE);
        }
        for (int[] none : NO_CELLS) {
            changesNothing("odds(" + none[0] + ", " + none[1] + ", 5)", h -> tell(h, NINE),
                h -> h.odds(none[0], none[1], 5), NONE);
        }
    }

    // ---- promises 13 to 16

    private static void benchesBounds() {
        says(13, "how many they were; NONE: out of bounds, it is so");
        for (int was = 1; was <= 3; was++) {
            for (int n = -2; n <= 6; n++) {
                SparesHouse house = told("benches " + was + ";");
                boolean taken = n >= 1 && n <= 3 && n != was;
                due("benches(" + n + ") of " + was, house.benches(n), taken ? was : NONE);
                due("count(2)", house.count(2), taken ? n : was);
                due("count(5)", house.count(5), taken ? 1 : 0);
            }
        }
        for (int n : new int[] {0, 1, 4, -1, DEEP, FAR, 258}) {
            changesNothing("benches(" + n + ")", Checks::busy, house -> house.benches(n), NONE);
        }
    }

    private static void benchesMoreAndFewer() {
        says(13, "what is on one stays on it; if there are more, those that wait may begin");
        for (int was = 1; was <= 3; was++) {
            for (int n = 1; n <= 3; n++) {
                for (int pieces = 0; pieces <= 5; pieces++) {
                    SparesHouse house = told("benches " + was + ";part 1 0 9;base 1;cell 0 0 8 0 9;");
                    for (int i = 0; i < pieces; i++) {
                        house.breaks(0, 0);
                    }
                    house.pass(1);
                    house.benches(n);
                    int on = Math.min(pieces, Math.max(was, n));
                    String of = " of " + pieces + " by BENCHES " + was + ", then " + n;
                    due("part(0, 7)" + of, house.part(0, 7), on);
                    due("part(0, 6)" + of, house.part(0, 6), pieces - on);
                    due("count(9)" + of, house.count(9), pieces + on);
                    house.pass(9);
                    due("part(0, 7) on day 10" + of, house.part(0, 7), Math.min(pieces - on, n));
                }
            }
        }
        says(13, "fewer BENCHES: none begins till fewer are on them");
        SparesHouse house = told("benches 2;part 1 0 9;base 1;cell 0 0 8 0 9;");
        house.breaks(0, 0);
        house.pass(1);
        house.breaks(0, 0);
        house.breaks(0, 0);
        house.pass(1);
        house.benches(1);
        house.pass(8);
        due("part(0, 7): the first is off, the second still on", house.part(0, 7), 1);
        due("part(0, 6)", house.part(0, 6), 1);
        house.pass(1);
        due("part(0, 7): the third one", house.part(0, 7), 1);
        due("part(0, 6)", house.part(0, 6), 0);
    }

    private static void keepBounds() {
        says(14, "which it was; NONE: out of bounds, it is so");
        for (int was = 0; was <= 4; was++) {
            for (int n = -2; n <= 7; n++) {
                SparesHouse house = told("keep " + was + ";");
                boolean taken = n >= 0 && n <= 4 && n != was;
                due("keep(" + n + ") of " + was, house.keep(n), taken ? was : NONE);
                due("count(3)", house.count(3), taken ? n : was);
                due("count(5)", house.count(5), taken ? 1 : 0);
            }
        }
        for (int n : new int[] {-1, 1, 5, DEEP, FAR, 256}) {
            changesNothing("keep(" + n + ")", Checks::busy, house -> house.keep(n), NONE);
        }
    }

    private static void ruleTurns() {
        says(15, "RULE is the other one: which it was");
        SparesHouse house = new SparesHouse();
        for (int i = 0; i < 6; i++) {
            due("rule()", house.rule(), i % 2);
            due("count(4)", house.count(4), 1 - i % 2);
            due("count(5)", house.count(5), i + 1);
        }
        due("rule() of rule 1", told("rule 1;").rule(), 1);
    }

    private static void beginEdges() {
        says(16, "It BEGINS: which DAY it was");
        SparesHouse house = new SparesHouse();
        due("begin() on day 0", house.begin(), 0);
        due("count(5)", house.count(5), 1);
        house = new SparesHouse();
        goTo(house, 9999);
        due("begin() on the last day", house.begin(), 9999);
        due("pass(30) again", house.pass(30), 30);
        says(16, "nobody waits, nothing is under way: benches are free again");
        house = told("benches 2;part 1 0 9;base 1;cell 0 0 8 0 9;");
        for (int i = 0; i < 4; i++) {
            house.breaks(0, 0);
        }
        house.pass(1);
        due("begin()", house.begin(), 1);
        due("part(0, 6)", house.part(0, 6), 0);
        due("part(0, 7)", house.part(0, 7), 0);
        for (int i = 0; i < 3; i++) {
            house.breaks(0, 0);
        }
        house.pass(1);
        due("part(0, 7)", house.part(0, 7), 2);
        due("part(0, 6)", house.part(0, 6), 1);
        says(16, "the HAND of each CELL has STOCK pieces, as STOCK is now");
        house = new SparesHouse();
        busy(house);
        house.buy(0, 0);
        house.sell(1, 1);
        house.supply(1);
        due("begin()", house.begin(), 2);
        int[][] hands = {{2, 0}, {2, 8}};
        for (int base = 0; base <= 1; base++) {
            for (int part = 0; part <= 1; part++) {
                due("cell(.., 3)", house.cell(base, part, 3), hands[base][part]);
                for (int what = 4; what <= 8; what++) {
                    due("cell(.., " + what + ")", house.cell(base, part, what), 0);
                }
            }
        }
        due("part(0, 4)", house.part(0, 4), 1);
        due("part(1, 4)", house.part(1, 4), 1);
        for (int what = 5; what <= 8; what++) {
            due("part(0, " + what + ")", house.part(0, what), 0);
        }
        for (int what = 0; what <= 10; what++) {
            due("played(" + what + ")", house.played(what), 0);
        }
        due("count(9)", house.count(9), 0);
        due("count(3): KEEP stays", house.count(3), 1);
        due("count(4): RULE stays", house.count(4), 1);
        due("count(6): the tape stays", house.count(6), 7);
    }

    // ---- refusals, promise 17

    private static void refusedActsOfABusyHouse() {
        says(5, "NONE, and nothing happens, in a house where much happens");
        changesNothing("breaks(0, 0) of a cell all of holes", Checks::busy, h -> h.breaks(0, 0), NONE);
        changesNothing("breaks(2, 0)", Checks::busy, h -> h.breaks(2, 0), NONE);
        changesNothing("breaks(0, 2)", Checks::busy, h -> h.breaks(0, 2), NONE);
        says(2, "NONE, and nothing comes");
        changesNothing("feed of a full tape", h -> {
            busy(h);
            feedText(h, " ".repeat(380));
        }, h -> h.feed(1, 2, 3, 4, 5), NONE);
        says(3, "NONE, and nothing goes");
        changesNothing("back(8)", Checks::busy, h -> h.back(8), NONE);
        changesNothing("back(-1)", Checks::busy, h -> h.back(-1), NONE);
        says(8, "NONE, and nothing happens");
        changesNothing("buy(1, 1)", Checks::busy, h -> h.buy(1, 1), NONE);
        changesNothing("buy(2, 1)", Checks::busy, h -> h.buy(2, 1), NONE);
        says(9, "NONE, and nothing happens");
        changesNothing("sell(0, 0)", Checks::busy, h -> h.sell(0, 0), NONE);
        changesNothing("sell(0, 1)", Checks::busy, h -> h.sell(0, 1), NONE);
        says(11, "NONE, and nothing happens");
        changesNothing("set(0, 0, 4)", Checks::busy, h -> h.set(0, 0, 4), NONE);
        changesNothing("set(0, 1, 10)", Checks::busy, h -> h.set(0, 1, 10), NONE);
        changesNothing("set(0, 2, 0)", Checks::busy, h -> h.set(0, 2, 0), NONE);
        says(12, "NONE, and nothing happens");
        changesNothing("odds(1, 1, 12)", Checks::busy, h -> h.odds(1, 1, 12), NONE);
        changesNothing("odds(1, 1, 13)", Checks::busy, h -> h.odds(1, 1, 13), NONE);
        says(17, "NONE: none can, and nothing happens");
        changesNothing("undo()", h -> tell(h, NINE), SparesHouse::undo, NONE);
    }

    private static void actsCount() {
        says(17, "The latest ACT is taken back, whichever it was");
        isAnAct("breaks(1, 0)", Checks::busy, h -> h.breaks(1, 0), 10);
        isAnAct("breaks(1, 1)", Checks::busy, h -> h.breaks(1, 1), 10);
        isAnAct("pass(1)", Checks::busy, h -> h.pass(1), 3);
        isAnAct("pass(30)", Checks::busy, h -> h.pass(30), 32);
        isAnAct("run(1, 0)", Checks::busy, h -> h.run(1, 0), 1);
        isAnAct("buy(0, 0)", Checks::busy, h -> h.buy(0, 0), 2);
        isAnAct("buy(1, 0)", Checks::busy, h -> h.buy(1, 0), 3);
        isAnAct("sell(1, 1)", Checks::busy, h -> h.sell(1, 1), 8);
        isAnAct("supply(0)", Checks::busy, h -> h.supply(0), 2);
        isAnAct("supply(1)", Checks::busy, h -> h.supply(1), 1);
        isAnAct("set(0, 0, 30)", Checks::busy, h -> h.set(0, 0, 30), 4);
        isAnAct("set(0, 1, 9)", Checks::busy, h -> h.set(0, 1, 9), 0);
        isAnAct("set(0, 2, 1)", Checks::busy, h -> h.set(0, 2, 1), 9);
        isAnAct("odds(0, 0, 0)", Checks::busy, h -> h.odds(0, 0, 0), 5);
        isAnAct("benches(3)", Checks::busy, h -> h.benches(3), 1);
        isAnAct("keep(4)", Checks::busy, h -> h.keep(4), 1);
        isAnAct("rule()", Checks::busy, SparesHouse::rule, 1);
        isAnAct("begin()", Checks::busy, SparesHouse::begin, 2);
        says(17, "what is told, asked or weighed is no ACT");
        SparesHouse house = new SparesHouse();
        busy(house);
        house.feed(0, 0, 0, 0, 0);
        house.back(20);
        house.played(0);
        house.lacks();
        house.best(9, 0, 0);
        house.would(5, 1, 5);
        house.spared(5, 1, 0, 0);
        house.by(5, 1, 2, 3);
        house.bestKeep(5, 1);
        house.quiet();
        house.spell(0);
        due("count(5)", house.count(5), 8);
    }

    private static void undoTwelve() {
        says(17, "ACTS, of which the latest 12 can be undone");
        for (int acts = 0; acts <= 26; acts++) {
            SparesHouse house = new SparesHouse();
            for (int i = 0; i < acts; i++) {
                house.pass(1);
            }
            int can = Math.min(acts, 12);
            due("count(5) behind " + acts, house.count(5), can);
            for (int i = can - 1; i >= 0; i--) {
                due("undo() of " + acts, house.undo(), i);
                due("count(5)", house.count(5), i);
            }
            due("undo() of " + acts + ": none can", house.undo(), NONE);
            due("undo() once more", house.undo(), NONE);
            due("count(5)", house.count(5), 0);
            due("played(0)", house.played(0), acts - can);
        }
    }

    private static void undoRound() {
        says(17, "how many more can be, round and round");
        SparesHouse house = new SparesHouse();
        int day = 0;
        int can = 0;
        for (int round = 0; round < 8; round++) {
            for (int i = 0; i < 7; i++) {
                house.pass(1);
                day++;
                can = Math.min(can + 1, 12);
            }
            for (int i = 0; i < 5; i++) {
                day--;
                can--;
                due("undo()", house.undo(), can);
                due("played(0)", house.played(0), day);
            }
        }
        due("count(5)", house.count(5), 7);
        for (int i = 6; i >= 0; i--) {
            due("undo()", house.undo(), i);
        }
        due("played(0)", house.played(0), 9);
        due("undo()", house.undo(), NONE);
        says(17, "an undone ACT can't be undone again, a new one can");
        house.pass(3);
        due("undo()", house.undo(), 0);
        due("undo()", house.undo(), NONE);
        house.pass(4);
        due("played(0)", house.played(0), 13);
        due("undo()", house.undo(), 0);
        due("played(0)", house.played(0), 9);
    }

    private static void undoAndTexts() {
        says(17, "text() forgets them");
        SparesHouse house = new SparesHouse();
        house.rule();
        house.pass(1);
        due("text()", house.text(), 0);
        due("count(5)", house.count(5), 0);
        due("undo()", house.undo(), NONE);
        due("count(4)", house.count(4), 0);
        for (int i = 0; i < 15; i++) {
            house.rule();
        }
        tell(house, "keep 1;");
        due("undo() behind fifteen", house.undo(), NONE);
        house.rule();
        due("undo()", house.undo(), 0);
        due("count(3): as told", house.count(3), 1);
        says(17, "a FAULT leaves all else");
        house.rule();
        due("a fault", tell(house, "keep 5;"), -4 - 5);
        due("count(5)", house.count(5), 1);
        due("undo()", house.undo(), 0);
        due("count(4)", house.count(4), 0);
        says(17, "the tape is no part of an ACT");
        house.rule();
        feedText(house, "keep 2;");
        due("undo()", house.undo(), 0);
        due("count(6)", house.count(6), 7);
        due("text()", house.text(), 0);
        due("count(3)", house.count(3), 2);
    }

    private static void fiveHundredTwelveCalls() {
        says(17, "An object is used for at most 512 calls");
        SparesHouse house = new SparesHouse();
        for (int i = 1; i <= 500; i++) {
            due("pass(19)", house.pass(19), 19 * i);
        }
        for (int i = 11; i >= 0; i--) {
            due("undo(): the 512th call as the first", house.undo(), i);
        }
        house = new SparesHouse();
        for (int i = 0; i < 511; i++) {
            house.rule();
        }
        due("rule(), the 512th", house.rule(), 1);
    }
}
