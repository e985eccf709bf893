/** Boundary cases of what is told: the terms' bounds, the TEXT and its FAULTS, promises 1 to 4 and 40. */
public final class TextBoundsTests extends Checks {
    private static final String[] WORDS = {"benches", "keep", "rule", "part", "base", "cell", "works"};
    // Two parts and two bases, so that 0 and 1 are told and 2 is not.
    private static final String TWO = "part 1 0 1;part 1 0 1;base 1;base 1;";

    public static void main(String[] args) {
        newObject();
        feed();
        feedOfAFullTape();
        back();
        cellsOfAText();
        faultsAnswer();
        boundsOfTheHouse();
        boundsOfPartsAndBases();
        boundsOfCells();
        boundsOfWorks();
        toldAhead();
        atMostThree();
        latestHolds();
        allAnew();
        faultChangesNothing();
        words();
        numbers();
        gaps();
        gapsBetween();
        everyByte();
        endsTooEarly();
        fullTape();
        spellBounds();
        spellWhatIsNotZero();
        spellLongest();
        end("TextBoundsTests");
    }

    // ---- promise 1

    private static void newObject() {
        says(1, "No PARTS, BASES; it BEGINS");
        SparesHouse house = new SparesHouse();
        int[] counts = {0, 0, 1, 0, 0, 0, 0, 0, 0, 0};
        for (int what = 0; what < counts.length; what++) {
            due("count(" + what + ")", house.count(what), counts[what]);
        }
        for (int what = 0; what <= 10; what++) {
            due("played(" + what + ")", house.played(what), 0);
        }
        for (int i = -1; i <= 3; i++) {
            due("part(" + i + ", 0)", house.part(i, 0), NONE);
            due("base(" + i + ", 0)", house.base(i, 0), NONE);
            due("cell(" + i + ", 0, 0)", house.cell(i, 0, 0), NONE);
            due("cell(0, " + i + ", 8)", house.cell(0, i, 8), -1000);
        }
        due("want(0, 0)", house.want(0, 0), NONE);
        due("call(0, 0, 0)", house.call(0, 0, 0), NONE);
        due("way(0, 0)", house.way(0, 0), NONE);
        due("waits(0)", house.waits(0), NONE);
        due("undo()", house.undo(), NONE);
    }

    // ---- promises 2 and 3

    private static void feed() {
        says(2, "Twenty bytes, the highest of a first, come behind the tape");
        for (int at = 0; at < 20; at++) {
            SparesHouse house = new SparesHouse();
            int[] five = {0x20202020, 0x20202020, 0x20202020, 0x20202020, 0x20202020};
            five[at / 4] ^= 1 << (24 - at % 4 * 8);
            due("feed", house.feed(five[0], five[1], five[2], five[3], five[4]), 20);
            due("text() with a wrong byte at " + at, house.text(), -4 - at);
        }
        SparesHouse house = new SparesHouse();
        due("feed of highest bytes", house.feed(-1, -1, -1, -1, -1), 20);
        due("text() of bytes 255", house.text(), -4);
        due("feed of nothing but 0", house.feed(0, 0, 0, 0, 0), 20);
        due("text() of bytes 0", house.text(), -4);
        due("feed of extremes", house.feed(FAR, DEEP, FAR, DEEP, FAR), 20);
        due("text() of extremes", house.text(), -4);
        feedText(house, "keep");
        due("bytes behind bytes", house.feed(0x20333b20, 0x20202020, 0x20202020, 0x20202020, 0x20202020), 24);
        due("text()", house.text(), 0);
        due("count(3)", house.count(3), 3);
    }

    private static void feedOfAFullTape() {
        says(2, "NONE, and nothing comes, if it would have more than 400");
        for (int size = 379; size <= 400; size++) {
            SparesHouse house = new SparesHouse();
            feedText(house, blanks(size));
            due("count(6)", house.count(6), size);
            boolean taken = size <= 380;
            due("feed behind " + size, house.feed(-1, -1, -1, -1, -1), taken ? size + 20 : NONE);
            due("count(6)", house.count(6), taken ? size + 20 : size);
            due("text()", house.text(), taken ? -4 - size : 0);
        }
    }

    private static void back() {
        says(3, "NONE, and nothing goes, if it has not so many, or n is below 0");
        SparesHouse house = new SparesHouse();
        due("back(0) of an empty tape", house.back(0), 0);
        due("back(1) of an empty tape", house.back(1), NONE);
        due("back(-1) of an empty tape", house.back(-1), NONE);
        feedText(house, "keep 3;rule 1;");
        for (int n : new int[] {-1, -2, -14, DEEP, 15, 16, 400, FAR}) {
            due("back(" + n + ")", house.back(n), NONE);
            due("count(6)", house.count(6), 14);
        }
        due("back(0)", house.back(0), 14);
        due("text(): nothing went", house.text(), 0);
        due("count(4)", house.count(4), 1);
        says(3, "The last n bytes of the tape go");
        feedText(house, "keep 2;rule 0;");
        due("back(7)", house.back(7), 7);
        due("back(8)", house.back(8), NONE);
        due("text(): the first seven are left", house.text(), 0);
        due("count(3)", house.count(3), 2);
        due("count(4)", house.count(4), 0);
        feedText(house, blanks(400));
        due("back(401)", house.back(401), NONE);
        due("back(400)", house.back(400), 0);
        due("back(1)", house.back(1), NONE);
        feedText(house, "keep 4;");
        due("back(7): all of it", house.back(7), 0);
        due("text() of nothing", house.text(), 0);
        due("count(3)", house.count(3), 0);
    }

    // ---- promise 4

    private static void cellsOfAText() {
        says(4, "how many CELLS (BASES times PARTS)");
        read("", 0);
        for (int parts = 0; parts <= 3; parts++) {
            for (int bases = 0; bases <= 3; bases++) {
                read("part 1 0 1;".repeat(parts) + "base 1;".repeat(bases), parts * bases);
                read("base 1;".repeat(bases) + "part 1 0 1;".repeat(parts), parts * bases);
            }
        }
    }

    private static void faultsAnswer() {
        says(4, "-4 less its FAULT");
        faultAt("!", 0);
        faultAt(" !", 1);
        faultAt("keep 1;!", 7);
        says(4, "empty then, behind a FAULT, too");
        SparesHouse house = new SparesHouse();
        due("a fault", tell(house, "keep 3;!"), -4 - 7);
        due("count(6)", house.count(6), 0);
        due("back(1)", house.back(1), NONE);
        due("text() of the empty tape", house.text(), 0);
        due("a text", tell(house, "keep 3;"), 0);
        due("count(6)", house.count(6), 0);
        due("count(3)", house.count(3), 3);
        due("text() of the empty tape is a text, too", house.text(), 0);
        due("count(3)", house.count(3), 0);
    }

    /** Every number of one and two digits, with and without a 0 ahead, in one place of a text. */
    private static void bounds(String ahead, int low, int high, String behind, Call asked) {
        for (int v = 0; v <= 99; v++) {
            bound(ahead + v + behind, ahead.length(), v, v >= low && v <= high, asked);
            if (v < 10) {
                bound(ahead + "0" + v + behind, ahead.length(), v, v >= low && v <= high, asked);
            }
        }
        // Three digits are too many, though what they tell would do; so is what wraps around to it.
        faultAt(ahead + "00" + high + behind, ahead.length());
        faultAt(ahead + (4294967296L + high) + behind, ahead.length());
        faultAt(ahead + "-" + high + behind, ahead.length());
    }

    private static void bound(String text, int at, int v, boolean fits, Call asked) {
        if (!fits) {
            faultAt(text, at);
            return;
        }
        SparesHouse house = told(text);
        due("asked behind " + text, asked.of(house), v);
    }

    private static void boundsOfTheHouse() {
        says(4, "BENCHES (1 .. 3)");
        bounds("benches ", 1, 3, ";", h -> h.count(2));
        says(4, "KEEP (0 .. 4)");
        bounds("keep ", 0, 4, ";", h -> h.count(3));
        says(4, "RULE (0, 1)");
        bounds("rule ", 0, 1, ";", h -> h.count(4));
    }

    private static void boundsOfPartsAndBases() {
        says(4, "PRICE (1 .. 30)");
        bounds("part ", 1, 30, " 0 1;", h -> h.part(0, 0));
        says(4, "MEND (0 .. 9)");
        bounds("part 30 ", 0, 9, " 9;", h -> h.part(0, 1));
        says(4, "WORK (1 .. 9)");
        bounds("part 1 9 ", 1, 9, ";", h -> h.part(0, 2));
        says(4, "SHIP (1 .. 9)");
        bounds("base ", 1, 9, ";", h -> h.base(0, 0));
    }

    private static void boundsOfCells() {
        says(4, "UNITS (0 .. 8)");
        bounds(TWO + "cell 1 1 ", 0, 8, " 12 9;", h -> h.cell(1, 1, 0));
        says(4, "ODDS (0 .. 12)");
        bounds(TWO + "cell 0 1 8 ", 0, 12, " 0;", h -> h.cell(0, 1, 1));
        says(4, "STOCK (0 .. 9)");
        bounds(TWO + "cell 1 0 0 0 ", 0, 9, ";", h -> h.cell(1, 0, 2));
        says(4, "UNITS, ODDS, STOCK, all 0 at first");
        SparesHouse house = told(TWO);
        for (int what = 0; what <= 8; what++) {
            due("cell(1, 1, " + what + ")", house.cell(1, 1, what), 0);
        }
    }

    private static void boundsOfWorks() {
        says(4, "the works' STOCK (0 .. 9; 0 at first)");
        bounds(TWO + "works 1 ", 0, 9, ";", h -> h.part(1, 3));
        bounds(TWO + "works 0 ", 0, 9, ";", h -> h.part(0, 4));
        due("part(1, 3) at first", told(TWO).part(1, 3), 0);
    }

    private static void toldAhead() {
        says(4, "a BASE or PART not told ahead");
        for (int many = 1; many <= 3; many++) {
            String text = "part 1 0 1;".repeat(many) + "base 1;".repeat(many);
            String base = text + "cell ";
            String part = text + "cell 0 ";
            String works = text + "works ";
            for (int v = 0; v <= 99; v++) {
                if (v < many) {
                    read(base + v + " 0 1 1 1;", many * many);
                    read(part + v + " 1 1 1;", many * many);
                    read(works + "0" + v + " 1;", many * many);
                } else {
                    faultAt(base + v + " 0 1 1 1;", base.length());
                    faultAt(part + v + " 1 1 1;", part.length());
                    faultAt(works + v + " 1;", works.length());
                }
            }
        }
        faultAt("cell 0 0 1 1 1;part 1 0 1;base 1;", 5);
        faultAt("part 1 0 1;cell 0 0 1 1 1;base 1;", 16);
        faultAt("base 1;cell 0 0 1 1 1;part 1 0 1;", 14);
        faultAt("works 0 1;part 1 0 1;", 6);
        // One part and two bases, and the other way round: each has its own count.
        faultAt("part 1 0 1;base 1;base 1;cell 0 1 1 1 1;", 32);
        faultAt("base 1;part 1 0 1;part 1 0 1;cell 1 0 1 1 1;", 34);
        read("part 1 0 1;base 1;cell 0 0 1 1 1;part 1 0 1;base 1;cell 1 1 1 1 1;", 4);
    }

    private static void atMostThree() {
        says(4, "a fourth PART, BASE at its WORD");
        String parts = "part 30 9 9;".repeat(3);
        String bases = "base 9;".repeat(3);
        read(parts + bases, 9);
        for (String rest : new String[] {"part 1 0 1;", "part 1 0 1", "part 99 0 1;", "part;", "part", "part1", "part!"}) {
            faultAt(parts + rest, 36);
            faultAt(parts + bases + "\n" + rest, 58);
        }
        for (String rest : new String[] {"base 1;", "base 1", "base 0;", "base;", "base", "base1", "base!"}) {
            faultAt(bases + rest, 21);
            faultAt(bases + parts + " " + rest, 58);
        }
    }

    private static void latestHolds() {
        says(4, "of like ones the latest holds");
        SparesHouse house = told("benches 3;benches 2;keep 4;keep 1;keep 0;rule 1;rule 0;" + TWO
            + "cell 0 1 8 12 9;works 1 9;cell 0 1 0 0 0;works 1 0;cell 1 0 1 2 3;cell 1 0 4 5 6;works 0 1;works 0 2;");
        due("count(2)", house.count(2), 2);
        due("count(3)", house.count(3), 0);
        due("count(4)", house.count(4), 0);
        due("cell(0, 1, 0)", house.cell(0, 1, 0), 0);
        due("cell(0, 1, 1)", house.cell(0, 1, 1), 0);
        due("cell(0, 1, 2)", house.cell(0, 1, 2), 0);
        due("cell(0, 1, 3)", house.cell(0, 1, 3), 0);
        due("cell(1, 0, 0)", house.cell(1, 0, 0), 4);
        due("cell(1, 0, 1)", house.cell(1, 0, 1), 5);
        due("cell(1, 0, 2)", house.cell(1, 0, 2), 6);
        due("part(0, 3)", house.part(0, 3), 2);
        due("part(1, 3)", house.part(1, 3), 0);
    }

    private static void allAnew() {
        says(4, "The tape is the TEXT, all anew, and it BEGINS");
        SparesHouse house = new SparesHouse();
        busy(house);
        house.benches(3);
        house.back(7);
        due("an empty text", house.text(), 0);
        spells("behind an empty text", house, "benches 1;keep 0;rule 0;");
        for (int what = 0; what <= 10; what++) {
            due("played(" + what + ")", house.played(what), 0);
        }
        due("count(5): text() forgets acts", house.count(5), 0);
        due("undo()", house.undo(), NONE);
        due("lacks()", house.lacks(), 0);
        due("buys(0, 0)", house.buys(0, 0), NONE);
        due("a text of one cell", tell(house, "part 1 0 1;base 1;"), 1);
        for (int what = 0; what <= 8; what++) {
            due("cell(0, 0, " + what + ")", house.cell(0, 0, what), 0);
        }
        due("way(0, 0)", house.way(0, 0), NONE);
        due("want(0, 0)", house.want(0, 0), NONE);
        due("call(0, 0, 0)", house.call(0, 0, 0), NONE);
        due("waits(0)", house.waits(0), NONE);
        due("count(9)", house.count(9), 0);
        says(4, "all anew: nothing of an earlier TEXT holds, nor of one with a FAULT");
        String most = "benches 3;keep 4;rule 1;" + "part 30 9 9;".repeat(3) + "base 9;".repeat(3)
            + "cell 0 0 8 12 9;cell 1 1 8 12 9;cell 2 2 8 12 9;works 0 9;works 1 9;works 2 9;";
        house = told(most);
        due("a smaller text", tell(house, TWO), 4);
        spells("behind a larger text", house, "benches 1;keep 0;rule 0;" + TWO);
        due("part(0, 4)", house.part(0, 4), 0);
        due("cell(1, 1, 3)", house.cell(1, 1, 3), 0);
        house = new SparesHouse();
        due("a fault", tell(house, most + "!"), -4 - most.length());
        due("a smaller text", tell(house, TWO), 4);
        spells("behind a larger text with a fault", house, "benches 1;keep 0;rule 0;" + TWO);
        due("an empty text", tell(house, ""), 0);
        spells("behind an empty text", house, "benches 1;keep 0;rule 0;");
        says(4, "it BEGINS: benches are free again");
        house = told("part 1 0 9;base 1;cell 0 0 8 0 9;");
        house.breaks(0, 0);
        house.pass(1);
        due("part(0, 7)", house.part(0, 7), 1);
        tell(house, "part 1 0 9;base 1;cell 0 0 8 0 9;");
        house.breaks(0, 0);
        house.breaks(0, 0);
        house.pass(1);
        due("part(0, 7)", house.part(0, 7), 1);
        due("part(0, 6)", house.part(0, 6), 1);
        says(4, "the HAND of each CELL has STOCK pieces, the works' HAND of each PART the works' STOCK");
        house = told(TWO + "cell 0 1 0 0 9;cell 1 0 0 0 1;works 1 9;");
        due("cell(0, 0, 3)", house.cell(0, 0, 3), 0);
        due("cell(0, 1, 3)", house.cell(0, 1, 3), 9);
        due("cell(1, 0, 3)", house.cell(1, 0, 3), 1);
        due("part(0, 4)", house.part(0, 4), 0);
        due("part(1, 4)", house.part(1, 4), 9);
    }

    private static void faultChangesNothing() {
        says(4, "-4 less its FAULT, and all else stays");
        Recipe recipe = house -> {
            busy(house);
            house.back(7);
        };
        changesNothing("a fault at the start", recipe, house -> tell(house, "!"), -4);
        changesNothing("a fault at the end", recipe,
            house -> tell(house, "benches 3;keep 4;rule 0;part 1 1 1;base 5;cell 0 0 1 1 1;works 0 5;part"), -4 - 71);
        changesNothing("a fault behind many", recipe,
            house -> tell(house, "part 1 1 1;part 1 1 1;part 1 1 1;base 5;base 5;base 5;works 2 5;cell 2 2 8 12 10;"),
            -4 - 78);
        changesNothing("no bytes but a word", recipe, house -> tell(house, "rule"), -4 - 4);
        says(4, "Behind a FAULT acts can still be undone, what odds tell stays");
        SparesHouse house = told("part 1 0 1;base 1;cell 0 0 1 6 0;");
        due("lacks()", house.lacks(), TO_8 / 2);
        house.rule();
        due("a fault", tell(house, "part 1 0 1;base 1;cell 0 0 1 12 0;!"), -4 - 34);
        due("lacks()", house.lacks(), TO_8 / 2);
        due("count(5)", house.count(5), 1);
        due("undo()", house.undo(), 0);
        due("count(4)", house.count(4), 0);
    }

    private static void words() {
        says(4, "WORDS are small letters as far as they go on");
        String[] numbers = {" 1;", " 1;", " 1;", " 1 1 1;", " 1;", " 0 0 1 1 1;", " 0 1;"};
        for (int i = 0; i < WORDS.length; i++) {
            String word = WORDS[i];
            String n = numbers[i];
            read(TWO + word + n, i == 3 || i == 4 ? 6 : 4);
            int at = TWO.length() + 1;
            String ahead = TWO + "\n";
            faultAt(ahead + word.substring(1) + n, at);
            faultAt(ahead + word.substring(0, word.length() - 1) + n, at);
            faultAt(ahead + word + "s" + n, at);
            faultAt(ahead + "a" + word + n, at);
            faultAt(ahead + word + word + n, at);
            faultAt(ahead + word.toUpperCase() + n, at);
            faultAt(ahead + Character.toUpperCase(word.charAt(0)) + word.substring(1) + n, at);
            // The letters end where a capital begins: what they make is no word.
            faultAt(ahead + word.charAt(0) + word.substring(1).toUpperCase() + n, at);
            faultAt(ahead + word.charAt(0) + " " + word.substring(1) + n, at);
            faultAt(ahead + word + "S" + n, at + word.length());
            faultAt(ahead + word + word.toUpperCase() + n, at + word.length());
            for (int j = 0; j < word.length(); j++) {
                for (char c = 'a'; c <= 'z'; c++) {
                    if (c != word.charAt(j)) {
                        faultAt(ahead + word.substring(0, j) + c + word.substring(j + 1) + n, at);
                    }
                }
            }
        }
        faultAt("abcdefghijklmnopqrstuvwxyz 1;", 0);
        faultAt(";", 0);
        faultAt("1;", 0);
        faultAt("7 keep 1;", 0);
    }

    private static void numbers() {
        says(4, "N digits as far as they go on (one or two, 0s ahead, too)");
        read("keep 0;", 0);
        read("keep 00;", 0);
        read("keep 04;", 0);
        faultAt("keep 000;", 5);
        faultAt("keep 004;", 5);
        faultAt("keep 0000000004;", 5);
        faultAt("keep " + "0".repeat(394) + ";", 5);
        faultAt("keep " + "0".repeat(395), 5);
        faultAt("keep 2147483648;", 5);
        faultAt("keep 4294967296;", 5);
        faultAt("keep 18446744073709551616;", 5);
        faultAt("keep 0x1;", 6);
        faultAt("keep 1a;", 6);
        faultAt("keep 1.0;", 6);
        faultAt("keep +1;", 5);
        faultAt("keep a;", 5);
        read("part 09 09 09;base 09;cell 00 00 08 09 09;works 00 09;", 1);
        says(4, "of an N its first byte, of several the first one");
        faultAt("part 31 10 0;", 5);
        faultAt("part 30 10 0;", 8);
        faultAt("part 30 9 0;", 10);
        faultAt("part 30 9 10;", 10);
    }

    private static void gaps() {
        says(4, "Blanks (32), line ends (10) where one likes");
        read(" ", 0);
        read("\n", 0);
        read("\n \n\n  ", 0);
        read("keep 1; ", 0);
        read("keep 1;\n", 0);
        read("  \nkeep\n\n  1 \n ; \n rule\n1\n;\n", 0);
        read(" part 1 0 1 ;base 1; cell 0  0\n1 \n1\n 1;works\n0 \n9\n\n;", 1);
        read(blanks(390) + "keep 1 ; ", 0);
        read("keep" + blanks(380) + "1;", 0);
        read("keep 1" + "\n".repeat(393) + ";", 0);
        says(4, "no other byte is a blank");
        for (int sign : new int[] {0, 9, 11, 12, 13, 31, 33, 127, 128, 133, 138, 160, 255}) {
            char c = (char) sign;
            faultAt(c + "keep 1;", 0);
            faultAt("keep" + c + "1;", 4);
            faultAt("keep " + c + "1;", 5);
            faultAt("keep 1" + c + ";", 6);
            faultAt("keep 1;" + c, 7);
            faultAt("part 1" + c + "0 1;", 6);
            faultAt("part 1 0" + c + "1;", 8);
        }
    }

    private static void gapsBetween() {
        says(4, "one at least between two WORDS, two N, a WORD and N (else the second one can't stand there)");
        faultAt("keep1;", 4);
        faultAt("keep01;", 4);
        faultAt("keep9;", 4);
        faultAt("rule0;", 4);
        faultAt("benches3;", 7);
        faultAt("part1 0 1;", 4);
        faultAt("base1;", 4);
        faultAt(TWO + "cell0 0 1 1 1;", TWO.length() + 4);
        faultAt(TWO + "works0 1;", TWO.length() + 5);
        // Digits that go on are one N: the next one lacks then.
        faultAt("part 1 01;", 9);
        faultAt("part 10 1;", 9);
        faultAt("part 101;", 5);
        faultAt(TWO + "cell 0 0 111;", TWO.length() + 9);
        faultAt(TWO + "cell 0 0 1 11;", TWO.length() + 13);
        faultAt("keep keep 1;", 5);
        faultAt("keeprule 1;", 0);
        faultAt("keep 1rule 1;", 6);
        faultAt("keep 1 rule 1;", 7);
        read("keep 1;rule 1;part 1 0 1;base 1;", 1);
        says(4, "; behind the last N, not ahead of it, once");
        faultAt("keep;", 4);
        faultAt("keep ;", 5);
        faultAt("keep ; 1;", 5);
        faultAt("keep 1 1;", 7);
        faultAt("keep 1;;", 7);
        faultAt("keep 1; ;", 8);
        faultAt("part 1 0;", 8);
        faultAt("part 1 0 1 1;", 11);
        faultAt("base 1 1;", 7);
        faultAt(TWO + "cell 0 0 1 1;", TWO.length() + 12);
        faultAt(TWO + "cell 0 0 1 1 1 1;", TWO.length() + 15);
        faultAt(TWO + "works 0;", TWO.length() + 7);
        faultAt(TWO + "works 0 1 1;", TWO.length() + 10);
    }

    /** Each of 256 bytes in each kind of place. */
    private static void everyByte() {
        says(4, "FAULT: the first byte that can't stand there");
        for (int sign = 0; sign < 256; sign++) {
            char c = (char) sign;
            boolean gap = sign == 32 || sign == 10;
            boolean digit = sign >= '0' && sign <= '9';
            boolean letter = sign >= 'a' && sign <= 'z';
            readOrFault(c + "keep 1;", gap, 0);
            readOrFault("keep" + c + "1;", gap, letter ? 0 : 4);
            readOrFault("keep " + c + "1;", gap || sign == '0', 5);
            readOrFault("keep 1" + c + ";", gap, digit ? 5 : sign == ';' ? 7 : 6);
            readOrFault("keep 1 " + c + "rule 1;", sign == ';', gap ? 8 : 7);
            readOrFault("keep 1;" + c, gap, 7);
            readOrFault("part 1" + c + "0 1;", gap, digit ? 5 : 6);
        }
    }

    private static void readOrFault(String text, boolean reads, int fault) {
        if (reads) {
            read(text, 0);
        } else {
            faultAt(text, fault);
        }
    }

    private static void endsTooEarly() {
        says(4, "the TEXT's length, if it ends too early");
        String[] lines = {"benches 2;", "keep 3;", "rule 1;", "part 30 9 9;", "base 9;", "cell 1 1 8 12 9;", "works 1 9;"};
        for (int i = 0; i < lines.length; i++) {
            String line = lines[i];
            int word = WORDS[i].length();
            for (int n = 1; n < line.length(); n++) {
                // Letters that the end cuts off are no word.
                int at = n < word ? TWO.length() : TWO.length() + n;
                faultAt(TWO + line.substring(0, n), at);
                if (n >= word) {
                    faultAt(TWO + line.substring(0, n) + " \n", at + 2);
                }
            }
            read(TWO + line, i == 3 || i == 4 ? 6 : 4);
        }
    }

    private static void fullTape() {
        says(4, "a tape of 400 bytes");
        read(blanks(400), 0);
        read(blanks(393) + "keep 4;", 0);
        read("keep 4;" + blanks(393), 0);
        faultAt(blanks(399) + "!", 399);
        faultAt(blanks(399) + "k", 399);
        faultAt(blanks(396) + "keep", 400);
        faultAt(blanks(395) + "keep ", 400);
        faultAt(blanks(394) + "keep 4", 400);
        StringBuilder full = new StringBuilder("benches 3;keep 4;rule 1;" + "part 30 9 9;".repeat(3) + "base 9;".repeat(3));
        for (int i = 0; i < 9; i++) {
            full.append("cell " + i / 3 + " " + i % 3 + " 8 12 9;");
        }
        full.append("works 0 9;works 1 9;works 2 9;");
        read(full + "keep 3;".repeat((400 - full.length()) / 7) + blanks((400 - full.length()) % 7), 9);
        says(4, "what stood behind the tape's end is not read");
        SparesHouse house = new SparesHouse();
        feedText(house, "!".repeat(400));
        house.back(400);
        due("text()", tell(house, "keep 4;"), 0);
        feedText(house, "keep 3;rule 1;");
        house.back(8);
        due("text()", house.text(), -4 - 6);
    }

    // ---- promise 40

    private static void spellBounds() {
        says(40, "i NONE how many bytes, 0 on: the i-th; -2: there are not so many. NONE: i below NONE");
        SparesHouse house = new SparesHouse();
        String text = "benches 1;keep 0;rule 0;";
        due("spell(-1)", house.spell(-1), 24);
        for (int i = 0; i < 24; i++) {
            due("spell(" + i + ")", house.spell(i), text.charAt(i));
        }
        for (int i : new int[] {24, 25, 255, 256, 257, 400, FAR - 1, FAR}) {
            due("spell(" + i + ")", house.spell(i), -2);
        }
        for (int i : new int[] {-2, -3, -256, DEEP + 1, DEEP}) {
            due("spell(" + i + ")", house.spell(i), NONE);
        }
    }

    private static void spellWhatIsNotZero() {
        says(40, "CELLS (by BASES, then PARTS; those of which something is not 0)");
        String ahead = "benches 1;keep 0;rule 0;part 1 0 1;part 1 0 1;base 1;base 1;";
        spells("no cells", told(TWO + "cell 0 0 0 0 0;works 1 0;"), ahead);
        spells("one unit", told(TWO + "cell 0 0 1 0 0;"), ahead + "cell 0 0 1 0 0;");
        spells("one by odds", told(TWO + "cell 0 1 0 1 0;"), ahead + "cell 0 1 0 1 0;");
        spells("one spare", told(TWO + "cell 1 0 0 0 1;"), ahead + "cell 1 0 0 0 1;");
        spells("their order", told(TWO + "cell 1 1 4 0 0;cell 1 0 3 0 0;cell 0 1 2 0 0;cell 0 0 1 0 0;"),
            ahead + "cell 0 0 1 0 0;cell 0 1 2 0 0;cell 1 0 3 0 0;cell 1 1 4 0 0;");
        says(40, "works (by PARTS; those whose STOCK is not 0)");
        spells("the second part's", told(TWO + "works 1 1;"), ahead + "works 1 1;");
        spells("both parts'", told(TWO + "works 1 9;works 0 1;"), ahead + "works 0 1;works 1 9;");
        says(40, "parts without bases, bases without parts");
        spells("parts alone", told("part 10 0 1;works 0 2;"), "benches 1;keep 0;rule 0;part 10 0 1;works 0 2;");
        spells("bases alone", told("base 9;"), "benches 1;keep 0;rule 0;base 9;");
        says(40, "one digit up to 9, two from 10 on");
        spells("9 and 10", told("part 9 0 1;part 10 0 1;base 1;cell 0 0 0 9 0;cell 0 1 0 10 0;"),
            "benches 1;keep 0;rule 0;part 9 0 1;part 10 0 1;base 1;cell 0 0 0 9 0;cell 0 1 0 10 0;");
        for (int price = 1; price <= 30; price++) {
            String text = "benches 1;keep 0;rule 0;part " + price + " 0 1;";
            spells("PRICE " + price, told(text), text);
        }
        for (int odds = 1; odds <= 12; odds++) {
            String text = ahead + "cell 0 0 0 " + odds + " 0;";
            spells("ODDS " + odds, told(text), text);
        }
        says(40, "STOCK that comes and goes");
        SparesHouse house = told(TWO);
        house.buy(1, 1);
        house.supply(0);
        spells("bought", house, ahead + "cell 1 1 0 0 1;works 0 1;");
        house.undo();
        house.sell(1, 1);
        spells("sold", house, ahead);
        house.odds(0, 1, 12);
        spells("by other odds", house, ahead + "cell 0 1 0 12 0;");
        house.odds(0, 1, 0);
        spells("by no odds", house, ahead);
    }

    private static void spellLongest() {
        says(40, "the longest one has 255 bytes, and it can be told again");
        StringBuilder text = new StringBuilder("benches 3;keep 4;rule 1;" + "part 30 9 9;".repeat(3) + "base 9;".repeat(3));
        for (int i = 0; i < 9; i++) {
            text.append("cell " + i / 3 + " " + i % 3 + " 8 12 9;");
        }
        text.append("works 0 9;works 1 9;works 2 9;");
        SparesHouse house = told(text.toString());
        due("spell(-1)", house.spell(-1), 255);
        due("spell(254)", house.spell(254), ';');
        due("spell(255)", house.spell(255), -2);
        spells("told again", told(spelled(house)), text.toString());
    }

    private static String blanks(int many) {
        return " ".repeat(many);
    }
}
