/** "Terms", from its first word to its last: each sentence in the document's own words, and what calls tell by it. */
public final class TermsTests extends Checks {
    private static final String PART = "part 1 0 1;";
    private static final String BASE = "base 1;";
    // All five kinds of ways by turns; its days are told where it is used.
    private static final String ALL_KINDS = "part 1 0 3;part 1 5 1;base 2;base 4;"
        + "cell 0 0 2 0 0;cell 0 1 1 0 1;cell 1 0 1 0 1;works 0 1;";

    public static void main(String[] args) {
        numbers();
        texts();
        faults();
        days();
        ways();
        works();
        daysGoBy();
        runs();
        odds();
        buys();
        actsAndWere();
        saidAll(Document.TERMS);
        end("TermsTests");
    }

    private static void says(String sentence) {
        says(Document.TERMS, sentence);
    }

    private static SparesHouse house(Recipe recipe) {
        SparesHouse house = new SparesHouse();
        recipe.play(house);
        return house;
    }

    private static void breakAll(SparesHouse house, int[][] cells) {
        for (int[] one : cells) {
            house.breaks(one[0], one[1]);
        }
    }

    /** What a part, a cell or the house tells from 0 on. */
    private static void partIs(SparesHouse house, int part, int... want) {
        for (int what = 0; what < want.length; what++) {
            due("part(" + part + ", " + what + ")", house.part(part, what), want[what]);
        }
    }

    private static void cellIs(SparesHouse house, int base, int part, int... want) {
        for (int what = 0; what < want.length; what++) {
            due("cell(" + base + ", " + part + ", " + what + ")", house.cell(base, part, what), want[what]);
        }
    }

    private static void benchesKeepRule(SparesHouse house, int benches, int keep, int rule) {
        due("BENCHES", house.count(2), benches);
        due("KEEP", house.count(3), keep);
        due("RULE", house.count(4), rule);
    }

    private static void numbers() {
        says("PARTS 0, 1, .. (at most 3): PRICE (1 .. 30), MEND (0 .. 9), WORK (1 .. 9).");
        SparesHouse house = told("part 1 0 1;part 30 9 9;part 15 4 5;");
        due("count(0)", house.count(0), 3);
        partIs(house, 0, 1, 0, 1);
        partIs(house, 1, 30, 9, 9);
        partIs(house, 2, 15, 4, 5);
        partIs(house, 3, NONE, NONE, NONE);
        faultAt("part 0 0 1;", 5);
        faultAt("part 31 0 1;", 5);
        faultAt("part 1 10 1;", 7);
        faultAt("part 1 0 0;", 9);
        faultAt("part 1 0 10;", 9);
        says("BASES 0, 1, .. (at most 3): SHIP (1 .. 9).");
        house = told("base 1;base 9;base 5;");
        due("count(1)", house.count(1), 3);
        for (int base = 0; base <= 3; base++) {
            due("base(" + base + ", 0)", house.base(base, 0), new int[] {1, 9, 5, NONE}[base]);
        }
        faultAt("base 0;", 5);
        faultAt("base 10;", 5);
        numbersOfCells();
        says("BENCHES (1 .. 3; 1 at first), KEEP (0 .. 4; 0), RULE (0, 1; 0).");
        benchesKeepRule(new SparesHouse(), 1, 0, 0);
        benchesKeepRule(told("benches 3;keep 4;rule 1;"), 3, 4, 1);
        benchesKeepRule(told("benches 1;keep 0;rule 0;"), 1, 0, 0);
        benchesKeepRule(told(PART), 1, 0, 0);
        faultAt("benches 0;", 8);
        faultAt("benches 4;", 8);
        faultAt("keep 5;", 5);
        faultAt("rule 2;", 5);
    }

    private static void numbersOfCells() {
        says("Of a CELL (a BASE and a PART): UNITS (0 .. 8), ODDS (0 .. 12), STOCK (0 .. 9), all 0 at first.");
        SparesHouse house = told(PART + PART + BASE + BASE + "cell 0 1 8 12 9;cell 1 0 1 2 3;");
        cellIs(house, 0, 0, 0, 0, 0);
        cellIs(house, 0, 1, 8, 12, 9);
        cellIs(house, 1, 0, 1, 2, 3);
        cellIs(house, 1, 1, 0, 0, 0);
        cellIs(house, 2, 0, NONE, NONE, NONE);
        cellIs(house, 0, 2, NONE, NONE, NONE);
        cellIs(told(PART + BASE + "cell 0 0 8 12 9;cell 0 0 0 0 0;"), 0, 0, 0, 0, 0);
        faultAt(PART + BASE + "cell 0 0 9 0 0;", 27);
        faultAt(PART + BASE + "cell 0 0 8 13 0;", 29);
        faultAt(PART + BASE + "cell 0 0 8 12 10;", 32);
        says("Of a PART the works' STOCK (0 .. 9; 0 at first).");
        house = told(PART + PART + "works 1 9;");
        due("part(0, 3)", house.part(0, 3), 0);
        due("part(1, 3)", house.part(1, 3), 9);
        read(PART + "works 0 0;", 0);
        faultAt(PART + "works 0 10;", 19);
    }

    private static void texts() {
        says("A TEXT: { benches N ; | keep N ; | rule N ; | part N N N ; | base N ; | cell N N N N N ; | works N N ; }: "
            + "part: PRICE, MEND, WORK; base: SHIP; cell: a BASE, a PART (told ahead), UNITS, ODDS, STOCK; "
            + "works: a PART (told ahead), its STOCK;");
        String text = "rule 1;base 3;part 7 2 4;keep 2;cell 0 0 5 6 7;works 0 8;benches 2;base 4;part 9 0 1;";
        read(text, 4);
        SparesHouse house = told(text);
        partIs(house, 0, 7, 2, 4, 8);
        partIs(house, 1, 9, 0, 1, 0);
        due("base(0, 0)", house.base(0, 0), 3);
        due("base(1, 0)", house.base(1, 0), 4);
        cellIs(house, 0, 0, 5, 6, 7);
        cellIs(house, 1, 1, 0, 0, 0);
        benchesKeepRule(house, 2, 2, 1);
        for (String one : new String[] {"", "benches 2;", "keep 2;", "rule 1;", "part 7 2 4;", "base 3;"}) {
            read(one, 0);
        }
        tooFewOrTooMany("benches", 1, "");
        tooFewOrTooMany("keep", 1, "");
        tooFewOrTooMany("rule", 1, "");
        tooFewOrTooMany("part", 3, "");
        tooFewOrTooMany("base", 1, "");
        tooFewOrTooMany("cell", 5, PART + PART + BASE + BASE);
        tooFewOrTooMany("works", 2, PART + PART);
        says("of like ones the latest holds.");
        house = told("benches 3;keep 4;rule 1;benches 2;keep 1;rule 0;" + PART + BASE
            + "cell 0 0 8 12 9;cell 0 0 1 2 3;works 0 5;works 0 4;");
        benchesKeepRule(house, 2, 1, 0);
        cellIs(house, 0, 0, 1, 2, 3);
        due("part(0, 3)", house.part(0, 3), 4);
        letters();
    }

    /** One N too few and the ; can't stand there; one too many and it can't itself. */
    private static void tooFewOrTooMany(String word, int many, String ahead) {
        String full = ahead + word + " 1".repeat(many);
        int end = full.length();
        due(full + ";", Math.min(tell(new SparesHouse(), full + ";"), 0), 0);
        faultAt(full.substring(0, end - 2) + ";", end - 2);
        faultAt(full + " 1;", end + 1);
        faultAt(full + " keep 1;", end + 1);
        faultAt(full + ";;", end + 1);
    }

    private static void letters() {
        says("WORDS are small letters as far as they go on, N digits as far as they go on (one or two, 0s ahead, too).");
        faultAt("Keep 1;", 0);
        faultAt("kee 1;", 0);
        faultAt("keeps 1;", 0);
        faultAt("keeprule 1;", 0);
        faultAt("keep a;", 5);
        faultAt("keep 004;", 5);
        faultAt("keep -1;", 5);
        benchesKeepRule(told("benches 03;keep 04;rule 01;"), 3, 4, 1);
        benchesKeepRule(told("keep 00;rule 0;"), 1, 0, 0);
        partIs(told("part 09 09 09;"), 0, 9, 9, 9);
        says("Blanks (32), line ends (10) where one likes;");
        benchesKeepRule(told(" \n keep\n4 \n\n; \n rule  1\n;\n"), 1, 4, 1);
        read(" ", 0);
        read("\n", 0);
        for (char other : new char[] {0, 9, 11, 12, 13, 31, 33, 127, 128, 160, 255}) {
            faultAt("keep" + other + "4;", 4);
            faultAt("keep 4;" + other, 7);
        }
        says("one at least between two WORDS, two N, a WORD and N (else the second one can't stand there).");
        faultAt("keep4;", 4);
        faultAt("keep 4rule 1;", 6);
        faultAt("part 1 0 1part 1 0 1;", 10);
        // Two N without one between them are one N: the third one lacks then.
        faultAt("part 10 1;", 9);
        read("keep 4;rule 1;", 0);
    }

    private static void faults() {
        says("FAULT: the first byte that can't stand there (of a WORD, N its first one:");
        faultAt("?", 0);
        faultAt(";", 0);
        faultAt("4", 0);
        faultAt("keep 1;ruse 1;", 7);
        faultAt("keep 1; \n?", 9);
        faultAt("keep ?;", 5);
        faultAt("keep 1?;", 6);
        faultAt("keep 1 ?;", 7);
        faultAt("part 1 0 1;part 1 99 x;", 18);
        says("also an N out of bounds, of three digits or more, a BASE or PART not told ahead;");
        faultAt("benches 99;", 8);
        faultAt("part 30 9 9;part 31 9 9;", 17);
        faultAt("keep 001;", 5);
        faultAt("keep 0000000000000000000000000001;", 5);
        faultAt(PART + "cell 0 0 1 1 1;" + BASE, 16);
        faultAt(BASE + "cell 0 0 1 1 1;" + PART, 14);
        faultAt(PART + BASE + "cell 1 0 1 1 1;", 23);
        faultAt(PART + BASE + "cell 0 1 1 1 1;", 25);
        faultAt("works 0 1;" + PART, 6);
        faultAt(PART + "works 1 1;", 17);
        says("a fourth PART, BASE at its WORD;");
        faultAt(PART.repeat(4), 33);
        faultAt(PART.repeat(3) + "  part", 35);
        faultAt(BASE.repeat(4), 21);
        faultAt(BASE.repeat(3) + "\nbase 99;", 22);
        says("the TEXT's length, if it ends too early).");
        String text = PART + BASE + "keep 3;works 0 1 ;";
        for (String early : new String[] {"part", "part ", "part 1", "part 1 0 1", "part 1 0 1 ", "base 1", "keep", "keep\n",
            PART + "works", PART + "works 0", PART + "works 0 1"}) {
            faultAt(early, early.length());
        }
        for (int end : new int[] {11, 18, 25}) {
            read(text.substring(0, end), end < 18 ? 0 : 1);
        }
        read(text, 1);
    }

    private static void days() {
        says("DAYS. It BEGINS so: DAY 0; the HAND of each CELL has STOCK pieces, "
            + "the works' HAND of each PART the works' STOCK;");
        String text = "part 1 3 1;part 2 0 1;base 1;base 2;cell 0 0 2 0 4;cell 1 1 1 0 9;works 0 3;works 1 6;";
        Recipe played = h -> {
            tell(h, text);
            breakAll(h, new int[][] {{0, 0}, {0, 0}, {1, 1}, {1, 1}});
            h.pass(2);
        };
        Recipe begun = h -> {
            played.play(h);
            h.begin();
        };
        Recipe toldAgain = h -> {
            played.play(h);
            tell(h, text);
        };
        for (Recipe one : new Recipe[] {h -> tell(h, text), begun, toldAgain}) {
            SparesHouse house = house(one);
            due("played(0)", house.played(0), 0);
            for (int cell = 0; cell < 4; cell++) {
                due("HAND of cell " + cell, house.cell(cell / 2, cell % 2, 3), new int[] {4, 0, 0, 9}[cell]);
            }
            due("part(0, 4)", house.part(0, 4), 3);
            due("part(1, 4)", house.part(1, 4), 6);
        }
        says("nobody waits, nothing is under way, all counts are 0.");
        for (Recipe one : new Recipe[] {h -> tell(h, text), begun, toldAgain}) {
            nothingYet(house(one));
        }
        holes();
    }

    private static void nothingYet(SparesHouse house) {
        for (int what = 0; what <= 10; what++) {
            due("played(" + what + ")", house.played(what), 0);
        }
        wantsAre(house, new int[0][]);
        waysAre(house, new int[0][]);
        callsAre(house, 0, new int[0][]);
        callsAre(house, 1, new int[0][]);
        due("waits(0)", house.waits(0), NONE);
        due("count(9)", house.count(9), 0);
        for (int cell = 0; cell < 4; cell++) {
            for (int what = 4; what <= 8; what++) {
                due("cell of " + cell + ", " + what, house.cell(cell / 2, cell % 2, what), 0);
            }
        }
    }

    private static void holes() {
        says("HOLES of a CELL: UNITS that lack a piece (none then).");
        SparesHouse house = told("part 1 2 1;base 1;cell 0 0 3 0 1;");
        int[] holes = {0, 0, 1, 2, 3};
        for (int i = 0; i <= 4; i++) {
            due("HOLES behind " + i, house.cell(0, 0, 4), holes[i]);
            if (i < 4) {
                house.breaks(0, 0);
            }
        }
        house.pass(2);
        due("HOLES behind four mended ones", house.cell(0, 0, 4), 0);
        says("A piece BREAKS in a CELL that has fewer HOLES than UNITS: if its HAND has pieces, it has one less;");
        house = told("part 1 9 1;base 1;cell 0 0 1 0 2;");
        for (int hand = 1; hand >= 0; hand--) {
            house.breaks(0, 0);
            cellIs(house, 0, 0, 1, 0, 2, hand, 0);
        }
        wantsAre(house, new int[0][]);
        house.breaks(0, 0);
        cellIs(house, 0, 0, 1, 0, 2, 0, 1);
        due("as many HOLES as UNITS", house.breaks(0, 0), NONE);
        cellIs(house, 0, 0, 1, 0, 2, 0, 1);
        wantsAndCalls();
    }

    private static void wantsAndCalls() {
        says("else there is a HOLE more and a WANT of that CELL, of this DAY, behind all others.");
        SparesHouse house = told("part 1 9 1;part 1 9 1;base 1;base 1;cell 0 0 2 0 0;cell 0 1 1 0 0;cell 1 1 2 0 0;");
        house.breaks(1, 1);
        house.pass(2);
        house.breaks(0, 1);
        house.breaks(0, 0);
        house.pass(1);
        house.breaks(1, 1);
        wantsAre(house, new int[][] {{1, 1, 0, 0}, {0, 1, 2, 0}, {0, 0, 2, 0}, {1, 1, 3, 0}});
        due("HOLES of (0, 0)", house.cell(0, 0, 4), 1);
        due("HOLES of (0, 1)", house.cell(0, 1, 4), 1);
        due("HOLES of (1, 1)", house.cell(1, 1, 4), 2);
        says("The broken piece: if MEND is 1 or more, it is MENDED there, MEND DAYS;");
        for (int mend = 1; mend <= 9; mend++) {
            house = told("part 1 0 1;part 1 " + mend + " 1;base 9;base 9;cell 1 1 1 0 0;");
            house.pass(3);
            house.breaks(1, 1);
            waysAre(house, new int[][] {{0, 0, 1, 1, 3 + mend}});
            callsAre(house, 1, new int[0][]);
        }
        says("else it is SENT to the works, SHIP DAYS, "
            + "and the BASE has a CALL more of that PART, of this DAY, behind all others.");
        house = told("part 1 0 9;part 1 0 9;base 4;base 2;cell 0 0 2 0 1;cell 0 1 1 0 1;cell 1 0 1 0 1;");
        house.breaks(1, 0);
        house.pass(1);
        house.breaks(0, 1);
        house.breaks(0, 0);
        waysAre(house, new int[][] {{1, 0, 0, 1, 2}, {1, 1, 1, 0, 5}, {1, 2, 0, 0, 5}});
        callsAre(house, 0, new int[][] {{1, 0}, {0, 1}});
        callsAre(house, 1, new int[][] {{0, 1}});
    }

    /** Day 0 of ALL_KINDS: one sent with one shipped for it, one sent, one mended. */
    private static SparesHouse allKinds() {
        SparesHouse house = told(ALL_KINDS);
        breakAll(house, new int[][] {{0, 0}, {0, 0}, {0, 1}});
        return house;
    }

    private static void ways() {
        says("WAYS: what is under way: 0 MENDED at its BASE, 1 SENT to the works, 2 on a BENCH, WORK DAYS, "
            + "3 SHIPPED from the works to a BASE, its SHIP DAYS, 4 LENT from one BASE to another.");
        SparesHouse house = allKinds();
        waysAre(house, new int[][] {{1, 0, 0, 0, 2}, {3, 1, 0, 0, 2}, {1, 2, 0, 0, 2}, {0, 3, 1, 0, 5}});
        house.pass(1);
        waysAre(house, new int[][] {{1, 0, 0, 0, 2}, {3, 1, 0, 0, 2}, {1, 2, 0, 0, 2}, {0, 3, 1, 0, 5}, {4, 4, 0, 0, 7}});
        house.pass(1);
        waysAre(house, new int[][] {{0, 3, 1, 0, 5}, {2, 5, 0, -2, 5}, {4, 4, 0, 0, 7}});
        says("Each begins on a DAY, comes on the DAY so many DAYS behind that; WAYS are numbered as they begin.");
        house = allKinds();
        int[] underWay = {4, 5, 3, 3, 3, 3, 3, 1, 0, 0};
        int[] begun = {4, 5, 6, 6, 6, 8, 8, 8, 8, 8};
        for (int day = 0; day <= 9; day++) {
            due("WAYS under way on day " + day, house.played(9), underWay[day]);
            due("WAYS that began up to day " + day, house.count(9), begun[day]);
            house.pass(1);
        }
        house = allKinds();
        house.pass(5);
        waysAre(house, new int[][] {{4, 4, 0, 0, 7}, {3, 6, 0, 0, 7}, {2, 7, 0, -2, 8}});
        says("A piece that comes to a CELL (WAYS 0, 3, 4) fills the oldest WANT of that CELL, if there is one (a HOLE less);");
        house = allKinds();
        house.pass(1);
        wantsAre(house, new int[][] {{0, 0, 0, 1}, {0, 0, 0, 0}});
        house.pass(1);
        // The shipped one fills the oldest, though it was lent for: the lent one will fill the other.
        wantsAre(house, new int[][] {{0, 0, 0, 0}});
        due("HOLES", house.cell(0, 0, 4), 1);
        house.pass(5);
        wantsAre(house, new int[0][]);
        due("HOLES", house.cell(0, 0, 4), 0);
        fillsTheOldest();
        says("else its HAND has one more.");
        due("the shipped one that came behind the lent one", house.cell(0, 0, 3), 1);
        due("the mended one", house.cell(0, 1, 3), 1);
        due("the one that was lent from there", house.cell(1, 0, 3), 0);
    }

    /** Wants of three cells: a mended piece fills that of its own cell alone, the oldest one first. */
    private static void fillsTheOldest() {
        SparesHouse house = told("part 1 4 1;part 1 9 1;base 1;base 1;cell 0 0 2 0 0;cell 0 1 1 0 0;cell 1 0 1 0 0;");
        breakAll(house, new int[][] {{0, 1}, {1, 0}});
        house.pass(1);
        house.breaks(0, 0);
        house.pass(1);
        house.breaks(0, 0);
        house.pass(2);
        wantsAre(house, new int[][] {{0, 1, 0, 0}, {0, 0, 1, 0}, {0, 0, 2, 0}});
        house.pass(1);
        wantsAre(house, new int[][] {{0, 1, 0, 0}, {0, 0, 2, 0}});
        house.pass(1);
        wantsAre(house, new int[][] {{0, 1, 0, 0}});
        due("HAND of (1, 0)", house.cell(1, 0, 3), 0);
    }

    private static void works() {
        says("A piece that was SENT waits at the works behind all others.");
        SparesHouse house = told("part 1 0 9;part 1 0 9;part 1 0 9;base 1;base 3;cell 0 0 3 0 3;cell 0 1 1 0 1;cell 1 2 1 0 1;");
        breakAll(house, new int[][] {{1, 2}, {0, 0}});
        house.pass(1);
        breakAll(house, new int[][] {{0, 1}, {0, 0}});
        due("waits(0) on day 1: the first is on the BENCH", house.waits(0), NONE);
        house.pass(2);
        for (int k = 0; k <= 3; k++) {
            due("waits(" + k + ") on day 3", house.waits(k), new int[] {1, 0, 2, NONE}[k]);
        }
        says("As long as fewer WAYS are on BENCHES than there are BENCHES, the first that waits begins on one.");
        String text = "part 1 0 2;part 1 0 4;base 1;cell 0 0 8 0 9;cell 0 1 8 0 9;";
        int[][] four = {{0, 1}, {0, 0}, {0, 1}, {0, 0}};
        for (int benches = 1; benches <= 3; benches++) {
            house = told("benches " + benches + ";" + text);
            breakAll(house, four);
            house.pass(1);
            due("on BENCHES", house.part(0, 7) + house.part(1, 7), benches);
            due("first on a BENCH", house.part(1, 7), benches == 3 ? 2 : 1);
            due("waits(0)", house.waits(0), benches == 2 ? 1 : 0);
            due("pieces that wait", house.played(10), 4 - benches);
        }
        says("A piece that comes off a BENCH: the works' HAND of its PART has one more; "
            + "then, behind what that brings, the next one that waits may begin.");
        house = told("benches 2;" + text);
        breakAll(house, four);
        house.pass(1);
        waysAre(house, new int[][] {{2, 5, 0, -2, 3}, {2, 4, 1, -2, 5}});
        house.pass(2);
        waysAre(house, new int[][] {{3, 6, 0, 0, 4}, {2, 4, 1, -2, 5}, {2, 7, 1, -2, 7}});
        house.pass(2);
        waysAre(house, new int[][] {{3, 8, 1, 0, 6}, {2, 7, 1, -2, 7}, {2, 9, 0, -2, 7}});
        house = allKinds();
        house.pass(8);
        due("without CALLS it stays in the works' HAND", house.part(0, 4), 1);
        due("another PART's HAND", house.part(1, 4), 0);
        answers();
    }

    private static void answers() {
        says("As soon as the works' HAND of a PART has pieces and there are CALLS of it, one CALL is ANSWERED, "
            + "till one of both is none: a piece is SHIPPED to that BASE.");
        SparesHouse house = told("part 1 0 9;part 1 0 9;base 3;base 5;cell 0 0 2 0 2;cell 1 0 2 0 2;cell 1 1 1 0 1;works 0 2;");
        breakAll(house, new int[][] {{1, 0}, {0, 0}, {1, 0}});
        due("CALLS ANSWERED", house.played(8), 2);
        due("the works' HAND", house.part(0, 4), 0);
        callsAre(house, 0, new int[][] {{1, 0}});
        waysAre(house, new int[][] {{1, 2, 0, 0, 3}, {3, 3, 0, 0, 3}, {1, 0, 0, 1, 5}, {3, 1, 0, 1, 5}, {1, 4, 0, 1, 5}});
        house.supply(1);
        callsAre(house, 0, new int[][] {{1, 0}});
        due("another PART's HAND answers none", house.part(1, 4), 1);
        house.supply(0);
        callsAre(house, 0, new int[0][]);
        due("CALLS ANSWERED", house.played(8), 3);
        house.supply(0);
        due("no CALL is left", house.part(0, 4), 1);
        house.breaks(1, 1);
        due("the works' HAND of part 1", house.part(1, 4), 0);
        due("CALLS ANSWERED", house.played(8), 4);
        says("Which: by RULE 0 the oldest one of that PART;");
        house = told("part 1 0 9;part 1 0 9;base 9;base 9;base 9;cell 2 1 1 0 0;cell 1 0 1 0 1;cell 0 0 3 0 0;");
        breakAll(house, new int[][] {{2, 1}, {1, 0}, {0, 0}, {0, 0}});
        house.supply(0);
        due("SHIPPED to (1, 0)", house.cell(1, 0, 6), 1);
        callsAre(house, 0, new int[][] {{0, 0}, {0, 0}});
        callsAre(house, 1, new int[][] {{2, 0}});
        ruleOne();
    }

    private static void ruleOne() {
        says("by RULE 1 of the BASES that have CALLS of that PART those that have most WANTS of it, "
            + "of these BASES' CALLS the oldest.");
        // Base 1 has most wants but no calls any more; base 2 called first, its wants are of another part.
        SparesHouse house = told("rule 1;part 1 0 9;part 1 9 9;base 9;base 9;base 9;"
            + "cell 0 0 1 0 0;cell 1 0 2 0 0;cell 2 0 1 0 1;cell 2 1 3 0 0;works 0 2;");
        breakAll(house, new int[][] {{1, 0}, {1, 0}, {2, 0}, {2, 1}, {2, 1}, {2, 1}, {0, 0}});
        callsAre(house, 0, new int[][] {{2, 0}, {0, 0}});
        house.supply(0);
        callsAre(house, 0, new int[][] {{2, 0}});
        house.supply(0);
        callsAre(house, 0, new int[0][]);
        due("SHIPPED to (2, 0)", house.cell(2, 0, 6), 1);
        // A want each; base 1's first call is from when it had a hand.
        house = told("rule 1;part 1 0 9;base 9;base 9;cell 0 0 2 0 0;cell 1 0 2 0 1;");
        house.breaks(1, 0);
        house.pass(1);
        house.breaks(0, 0);
        house.pass(1);
        house.breaks(1, 0);
        house.supply(0);
        callsAre(house, 0, new int[][] {{0, 1}, {1, 2}});
        house.breaks(0, 0);
        house.supply(0);
        callsAre(house, 0, new int[][] {{1, 2}, {0, 2}});
        house.supply(0);
        callsAre(house, 0, new int[][] {{1, 2}});
    }

    private static void daysGoBy() {
        says("A DAY goes by: DAY is one more; what comes on it comes, by numbers of WAYS;");
        SparesHouse house = told("part 1 0 9;part 1 0 9;base 1;base 3;cell 0 0 1 0 1;cell 1 1 1 0 1;");
        house.breaks(1, 1);
        house.pass(2);
        due("the DAY", house.played(0), 2);
        house.breaks(0, 0);
        house.pass(1);
        due("the DAY", house.played(0), 3);
        // Both come on day 3; base 1's has the lower number and is on the bench.
        due("waits(0)", house.waits(0), 0);
        due("on a BENCH", house.part(1, 7), 1);
        says("then pieces are LENT: for each WANT, the oldest first, that was not lent for yet:");
        house = told("part 1 9 1;base 1;base 2;base 3;cell 0 0 1 0 0;cell 1 0 1 0 1;cell 2 0 1 0 0;");
        breakAll(house, new int[][] {{2, 0}, {0, 0}});
        wantsAre(house, new int[][] {{2, 0, 0, 0}, {0, 0, 0, 0}});
        house.pass(1);
        wantsAre(house, new int[][] {{2, 0, 0, 1}, {0, 0, 0, 0}});
        house.buy(1, 0);
        due("LENT as a DAY goes by, not as it comes", house.played(7), 1);
        house.pass(1);
        wantsAre(house, new int[][] {{2, 0, 0, 1}, {0, 0, 0, 1}});
        house.buy(1, 0);
        house.pass(1);
        due("both were lent for", house.played(7), 2);
        due("the HAND that stays", house.cell(1, 0, 3), 1);
        // A piece that comes on the day fills its want ahead of the lending, or is lent itself.
        house = told("part 1 1 1;base 1;base 1;cell 0 0 1 0 0;cell 1 0 1 0 1;");
        house.breaks(0, 0);
        house.pass(1);
        due("the mended one came first", house.played(7), 0);
        house = told("part 1 1 1;base 1;base 1;cell 0 0 1 0 0;cell 1 0 1 0 1;");
        house.breaks(1, 0);
        house.set(0, 1, 9);
        house.breaks(0, 0);
        house.pass(1);
        due("what came is lent on that DAY", house.played(7), 1);
        lenders();
    }

    /** Base 0 wants; SHIPS and HANDS of the others; which of them lends by KEEP. */
    private static void lenderIs(int keep, int[] ships, int[] hands, int lender) {
        String text = "keep " + keep + ";part 1 9 1;part 1 9 1;base 2;base " + ships[0] + ";base " + ships[1] + ";cell 0 0 1 0 0;"
            + "cell 1 0 1 0 " + hands[0] + ";cell 2 0 1 0 " + hands[1] + ";cell 0 1 1 0 9;cell 1 1 1 0 9;cell 2 1 1 0 9;";
        SparesHouse house = told(text);
        house.breaks(0, 0);
        house.pass(1);
        due("LENT by " + text, house.played(7), lender == NONE ? 0 : 1);
        for (int base = 1; base <= 2; base++) {
            int lent = base == lender ? 1 : 0;
            due("HAND of base " + base + " by " + text, house.cell(base, 0, 3), hands[base - 1] - lent);
            due("HAND of its other part", house.cell(base, 1, 3), 9);
        }
        if (lender != NONE) {
            waysAre(house, new int[][] {{4, 1, 0, 0, 1 + 2 + ships[lender - 1]}, {0, 0, 0, 0, 9}});
        }
    }

    private static void lenders() {
        says("the other BASE whose HAND of that PART is above KEEP, of several the one of least SHIP, then the first:");
        lenderIs(0, new int[] {1, 1}, new int[] {0, 0}, NONE);
        lenderIs(0, new int[] {1, 1}, new int[] {1, 1}, 1);
        lenderIs(0, new int[] {1, 1}, new int[] {0, 1}, 2);
        lenderIs(0, new int[] {2, 1}, new int[] {9, 1}, 2);
        lenderIs(0, new int[] {1, 2}, new int[] {1, 9}, 1);
        lenderIs(1, new int[] {1, 2}, new int[] {1, 2}, 2);
        lenderIs(1, new int[] {1, 2}, new int[] {1, 1}, NONE);
        lenderIs(4, new int[] {3, 3}, new int[] {4, 5}, 2);
        lenderIs(4, new int[] {3, 3}, new int[] {4, 4}, NONE);
        lenderIs(4, new int[] {5, 4}, new int[] {5, 5}, 2);
        says("that HAND has one less, a piece is LENT to the WANT's BASE, both SHIPS together DAYS; the WANT was lent for then.");
        SparesHouse house = told("part 1 0 9;base 3;base 5;cell 0 0 2 0 0;cell 1 0 1 0 2;");
        breakAll(house, new int[][] {{0, 0}, {0, 0}});
        house.pass(1);
        waysAre(house, new int[][] {{1, 0, 0, 0, 3}, {1, 1, 0, 0, 3}, {4, 2, 0, 0, 9}, {4, 3, 0, 0, 9}});
        wantsAre(house, new int[][] {{0, 0, 0, 1}, {0, 0, 0, 1}});
        due("HAND of base 1", house.cell(1, 0, 3), 0);
        due("LENT to base 0", house.cell(0, 0, 8), 2);
        due("LENT from base 1", house.cell(1, 0, 8), -2);
        house.pass(7);
        wantsAre(house, new int[][] {{0, 0, 0, 1}, {0, 0, 0, 1}});
        house.pass(1);
        wantsAre(house, new int[0][]);
        says("DAYS go to 9999.");
        house = told(PART);
        goTo(house, 9998);
        due("pass(1)", house.pass(1), 9999);
        due("pass(1)", house.pass(1), NONE);
        due("played(0)", house.played(0), 9999);
    }

    private static void runs() {
        says("LATE: of all WANTS that came how many DAYS they waited, till they were filled, or till now, together.");
        SparesHouse house = told("part 1 3 1;base 1;cell 0 0 2 0 0;");
        int[] late = {0, 1, 2, 4, 5, 6, 6, 6};
        for (int day = 0; day <= 7; day++) {
            if (day == 0 || day == 2) {
                house.breaks(0, 0);
            }
            due("LATE on day " + day, house.played(5), late[day]);
            house.pass(1);
        }
        says("A RUN of d DAYS by a seed x: for each draw x becomes x * 1103515245 + 12345 (an int, wrapping), "
            + "the draw is (x >>> 8) % 12;");
        for (int seed : new int[] {0, 1, 2, 3, -1, -2, 99, 4711, 1 << 20, 1 << 31, FAR, -987654321}) {
            long x = seed & 0xffffffffL;
            x = (x * 1103515245L + 12345L) % 4294967296L;
            int draw = (int) (x / 256 % 12);
            String text = "part 1 9 1;base 1;cell 0 0 1 " + draw + " 0;";
            due("seed " + seed + " by ODDS " + draw, told(text).run(1, seed), 0);
            due("seed " + seed + " by ODDS above", told(text.replace(draw + " 0;", draw + 1 + " 0;")).run(1, seed), 1);
        }
        says("each DAY: for each BASE, for each PART, a draw: if it is below ODDS, a piece BREAKS there, if it can; "
            + "then the DAY goes by.");
        drawsInOrder();
    }

    /** Draws by seed 7: 1 3 4 5, 8 4 0 0, 6 5 0 10. */
    private static void drawsInOrder() {
        SparesHouse house = told("part 1 9 1;part 1 8 1;base 1;base 1;"
            + "cell 0 0 8 2 9;cell 0 1 8 4 9;cell 1 0 8 4 9;cell 1 1 8 5 9;");
        due("run(1, 7)", house.run(1, 7), 2);
        waysAre(house, new int[][] {{0, 1, 1, 0, 8}, {0, 0, 0, 0, 9}});
        due("the DAY", house.played(0), 1);
        house.begin();
        due("run(3, 7)", house.run(3, 7), 5);
        // The two of day 0 again; on day 1 cells (1, 0) and (1, 1), on day 2 cell (1, 0).
        waysAre(house, new int[][] {{0, 1, 1, 0, 8}, {0, 0, 0, 0, 9}, {0, 3, 1, 1, 9}, {0, 2, 0, 1, 10}, {0, 4, 0, 1, 11}});
    }

    private static void odds() {
        says("OUT of a CELL, by odds: each of UNITS is out in ODDS of 12 ways: 12 ways for each of 8 "
            + "(those beyond UNITS are never out): of 12 to the 8th.");
        int[][] cells = {{0, 7}, {1, 5}, {2, 12}, {3, 4}, {4, 1}, {5, 11}, {3, 0}};
        for (int[] one : cells) {
            long[] outs = outsOneByOne(one[0], one[1]);
            SparesHouse house = told(PART + BASE + "cell 0 0 " + one[0] + " " + one[1] + " 0;");
            long all = 0;
            for (int x = 0; x <= 8; x++) {
                due("out(0, 0, " + x + ") by " + one[0] + " " + one[1], house.out(0, 0, x), outs[x]);
                all += house.out(0, 0, x);
            }
            due("all ways", all, TO_8);
        }
        says("LACK of a CELL by s spares: in each of these ways pieces out above s, all together.");
        for (int[] one : cells) {
            long[] outs = outsOneByOne(one[0], one[1]);
            SparesHouse house = told(PART + BASE + "cell 0 0 " + one[0] + " " + one[1] + " 0;");
            for (int s = 0; s <= 9; s++) {
                long lack = 0;
                for (int x = 0; x <= 8; x++) {
                    lack += outs[x] * Math.max(x - s, 0);
                }
                due("lack(0, 0, " + s + ") by " + one[0] + " " + one[1], house.lack(0, 0, s), lack);
            }
        }
        says("LACKS: of all CELLS by their numbers of spares together.");
        SparesHouse house = told(PART + PART + BASE + BASE + "cell 0 0 3 4 1;cell 0 1 2 12 0;cell 1 0 8 6 5;cell 1 1 1 12 9;");
        due("lacks()", house.lacks(), house.lack(0, 0, 1) + house.lack(0, 1, 0) + house.lack(1, 0, 5) + house.lack(1, 1, 9));
        due("lacksBy(0, false)", house.lacksBy(0, false),
            house.lack(0, 0, 0) + house.lack(0, 1, 0) + house.lack(1, 0, 0) + house.lack(1, 1, 0));
    }

    /** Goes through all ways of the units, each with those of the rest up to eight. */
    private static long[] outsOneByOne(int units, int odds) {
        long[] outs = new long[9];
        int ways = (int) Math.pow(12, units);
        for (int way = 0; way < ways; way++) {
            int out = 0;
            for (int unit = 0, rest = way; unit < units; unit++, rest /= 12) {
                out += rest % 12 < odds ? 1 : 0;
            }
            outs[out] += TO_8 / ways;
        }
        return outs;
    }

    private static void buys() {
        says("GAIN of a spare more: LACK by s less LACK by s and 1.");
        // By 12 to the 6th: cell (0, 0) lacks 72, 9, 0, cell (0, 1) 72, 0: gains of 63, 9 and 72.
        String weighed = "part 2 0 1;part 9 0 1;base 1;cell 0 0 2 3 0;cell 0 1 1 6 0;";
        SparesHouse house = told(weighed);
        due("a gain of 63", house.lacksBy(0, false) - house.lacksBy(2, false), 63 * TO_6);
        due("a gain of 72", house.lacksBy(2, false) - house.lacksBy(11, false), 72 * TO_6);
        due("a gain of 9", house.lacksBy(11, false) - house.lacksBy(13, false), 9 * TO_6);
        says("BUYS: from no spares at all, one by one: each time the CELL with fewer than 9 whose GAIN by PRICE is greatest, "
            + "of several the first (by BASES, then PARTS), as long as that GAIN is above 0.");
        // For a coin: 63 / 2, then 72 / 9, then 9 / 2.
        buysAre(house, new int[][] {{0, 0, 1, 2}, {0, 1, 1, 11}, {0, 0, 2, 13}});
        // For a coin, by quarters: cell (0, 1) 6 / 4, 6 / 4, all others 6 / 4 once; stocks don't matter.
        house = told("part 2 0 1;part 4 0 1;base 1;base 1;cell 0 0 1 6 9;cell 0 1 2 12 0;cell 1 0 1 6 0;cell 1 1 1 12 5;");
        buysAre(house, new int[][] {{0, 0, 1, 2}, {0, 1, 1, 6}, {0, 1, 2, 10}, {1, 0, 1, 12}, {1, 1, 1, 16}});
        due("a GAIN of 0", told(PART + BASE + "cell 0 0 8 0 0;").buys(0, 0), NONE);
        says("With a PURSE one buys them in this order, till the next one costs more than is left.");
        house = told(weighed);
        int[] many = {0, 0, 1, 1, 1, 1, 1, 1, 1, 1, 1, 2, 2, 3, 3};
        for (int purse = 0; purse <= 14; purse++) {
            due("bought(" + purse + ", 0)", house.bought(purse, 0), many[purse]);
        }
        says("BEST with a PURSE: of all numbers of spares (0 .. 9 in each CELL) whose PRICES together are no more than it "
            + "those of least LACKS, of these the cheapest, of these the first as a row (by BASES, then PARTS).");
        bestIs("part 7 0 1;part 3 0 1;base 1;base 1;cell 0 0 3 5 0;cell 0 1 2 9 0;cell 1 0 1 12 0;");
        bestIs("part 4 0 1;part 4 0 1;base 1;base 1;cell 0 0 4 6 0;cell 0 1 4 6 0;cell 1 1 4 6 0;");
        bestIs("part 6 0 1;part 3 0 1;base 1;base 1;cell 0 0 2 12 0;cell 0 1 4 6 0;cell 1 0 8 6 0;");
    }

    /** All rows of spares one after the other, the first ones first: none is taken that is as good as an earlier one. */
    private static void bestIs(String text) {
        SparesHouse house = told(text);
        long[] lack = new long[40];
        for (int i = 0; i < 40; i++) {
            lack[i] = house.lack(i / 20, i / 10 % 2, i % 10);
        }
        int[] prices = {house.part(0, 0), house.part(1, 0)};
        for (int purse = 0; purse <= 99; purse += purse < 30 ? 1 : 23) {
            int best = 0;
            long least = Long.MAX_VALUE;
            int cost = 0;
            for (int row = 0; row < 10000; row++) {
                int coins = prices[0] * (row / 1000 + row / 10 % 10) + prices[1] * (row / 100 % 10 + row % 10);
                long lacks = lack[row / 1000] + lack[10 + row / 100 % 10] + lack[20 + row / 10 % 10] + lack[30 + row % 10];
                if (coins <= purse && (lacks < least || lacks == least && coins < cost)) {
                    best = row;
                    least = lacks;
                    cost = coins;
                }
            }
            int told = house.best(purse, 0, 0) * 1000 + house.best(purse, 0, 1) * 100 + house.best(purse, 1, 0) * 10
                + house.best(purse, 1, 1);
            due("best of " + purse + " by " + text, told, best);
            due("lacksBy(" + purse + ", true) by " + text, house.lacksBy(purse, true), least);
        }
    }

    private static void actsAndWere() {
        says("ACTS, of which the latest 12 can be undone (text() forgets them).");
        SparesHouse house = new SparesHouse();
        for (int i = 0; i < 14; i++) {
            house.pass(1);
        }
        for (int i = 11; i >= 0; i--) {
            due("undo()", house.undo(), i);
        }
        due("undo() of the thirteenth", house.undo(), NONE);
        due("played(0)", house.played(0), 2);
        house.pass(1);
        house.text();
        due("undo() behind text()", house.undo(), NONE);
        says("WERE: things are as they are but for what is told; nothing happens.");
        Call[] calls = {h -> h.would(9, 5, 5), h -> h.spared(9, 5, 0, 0), h -> h.by(9, 5, 0, 0), h -> h.by(9, 5, 1, 4),
            h -> h.by(9, 5, 2, 3), h -> h.bestKeep(9, 5), SparesHouse::quiet};
        for (int i = 0; i < calls.length; i++) {
            changesNothing("what were, " + i, Checks::busy, calls[i], calls[i].of(house(Checks::busy)));
        }
        house = house(Checks::busy);
        due("RULE as it is", house.by(9, 5, 0, 1), house.would(9, 5, 5));
        due("KEEP as it is", house.by(9, 5, 1, 1), house.would(9, 5, 5));
        due("BENCHES as they are", house.by(9, 5, 2, 1), house.would(9, 5, 5));
        says("Where NONE and -2 could both be told, it is NONE, if it is not told otherwise.");
        house = told("part 30 0 1;base 1;cell 0 0 8 12 0;");
        due("-2 of purseFor", house.purseFor(0), -2);
        due("NONE of purseFor", house.purseFor(-1), NONE);
        due("-2 of spell", house.spell(1000), -2);
        due("NONE of spell", house.spell(-2), NONE);
        house.breaks(0, 0);
        house.pass(1);
        due("-2 of way", house.way(0, 3), -2);
        due("NONE of way", house.way(1, 3), NONE);
    }
}
