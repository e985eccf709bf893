/** Each promise, in the document's own words, sentence by sentence, with answers worked out by hand. */
public final class PromiseTests extends Checks {
    // Sent pieces: one bench, nothing at the works.
    private static final String SENDING = "part 5 0 2;base 2;base 3;cell 0 0 2 0 1;cell 1 0 2 0 0;";
    // Mended pieces, three bases of which two can lend.
    private static final String LENDING = "part 5 3 1;base 2;base 4;base 1;cell 0 0 2 0 0;cell 1 0 2 0 2;cell 2 0 2 0 2;";
    // Out of cell (0, 0) 81, 54, 9 times 12 to the 6th; of cell (0, 1) 72, 72.
    private static final String WEIGHED = "part 2 0 1;part 9 0 1;base 1;cell 0 0 2 3 0;cell 0 1 1 6 0;";

    public static void main(String[] args) {
        told();
        acts();
        asked();
        byOdds();
        were();
        texts();
        for (int number = 1; number <= Document.PROMISES; number++) {
            saidAll(number);
        }
        end("PromiseTests");
    }

    private static void told() {
        promise1();
        promise2();
        promise3();
        promise4();
        promise4Faults();
    }

    private static void acts() {
        promise5();
        promise6();
        promise7();
        promise8();
        promise9();
        promise10();
        promise11();
        promise12();
        promise13();
        promise14();
        promise15();
        promise16();
        promise17();
    }

    private static void asked() {
        promise18();
        promise19();
        promise20();
        promise21();
        promise22();
        promise23();
        promise24();
        promise25();
    }

    private static void byOdds() {
        promise26();
        promise27();
        promise28();
        promise29();
        promise30();
        promise31();
        promise32();
        promise33();
        promise34();
    }

    private static void were() {
        promise35();
        promise36();
        promise37();
        promise38();
        promise39();
    }

    private static void texts() {
        promise40();
        promise41();
    }

    /** Base 0 of SENDING breaks thrice: one from its hand, two wants. */
    private static SparesHouse threeSent() {
        SparesHouse house = told(SENDING);
        house.breaks(0, 0);
        house.breaks(0, 0);
        house.breaks(0, 0);
        return house;
    }

    private static void promise1() {
        says(1, "No PARTS, BASES; it BEGINS.");
        SparesHouse house = new SparesHouse();
        due("NONE", SparesHouse.NONE, -1);
        int[] counts = {0, 0, 1, 0, 0, 0, 0, 0, 0, 0};
        for (int what = 0; what <= 9; what++) {
            due("count(" + what + ")", house.count(what), counts[what]);
        }
        for (int what = 0; what <= 10; what++) {
            due("played(" + what + ")", house.played(what), 0);
        }
        due("part(0, 0)", house.part(0, 0), NONE);
        due("base(0, 0)", house.base(0, 0), NONE);
        due("undo()", house.undo(), NONE);
        due("text()", house.text(), 0);
        due("pass(1)", house.pass(1), 1);
    }

    private static void promise2() {
        says(2, "Twenty bytes, the highest of a first, come behind the tape: how many it has.");
        SparesHouse house = new SparesHouse();
        // "keep 3;", twelve blanks and a sign above 127, which is the twentieth byte.
        due("feed", house.feed(0x6b656570, 0x20333b20, 0x20202020, 0x20202020, 0x202020e9), 20);
        due("text()", house.text(), -4 - 19);
        due("feed", house.feed(0x6b656570, 0x20333b20, 0x20202020, 0x20202020, 0x20202020), 20);
        due("feed", house.feed(0x72756c65, 0x20313b20, 0x20202020, 0x20202020, 0x2020203f), 40);
        due("back(1)", house.back(1), 39);
        due("text()", house.text(), 0);
        due("count(3)", house.count(3), 3);
        due("count(4)", house.count(4), 1);
        for (int i = 1; i <= 20; i++) {
            due("feed", house.feed(0x20202020, 0x20202020, 0x20202020, 0x20202020, 0x20202020), 20 * i);
        }
        says(2, "NONE, and nothing comes, if it would have more than 400.");
        due("feed of a full tape", house.feed(0, 0, 0, 0, 0), NONE);
        due("count(6)", house.count(6), 400);
        due("back(19)", house.back(19), 381);
        due("feed of one too many", house.feed(0, 0, 0, 0, 0), NONE);
        due("count(6)", house.count(6), 381);
        due("back(1)", house.back(1), 380);
        due("feed", house.feed(0x20202020, 0x20202020, 0x20202020, 0x20202020, 0x2020203b), 400);
        due("text()", house.text(), -4 - 399);
    }

    private static void promise3() {
        says(3, "The last n bytes of the tape go: how many it has.");
        SparesHouse house = new SparesHouse();
        due("back(0)", house.back(0), 0);
        house.feed(1, 2, 3, 4, 5);
        due("back(7)", house.back(7), 13);
        due("back(0)", house.back(0), 13);
        due("back(13)", house.back(13), 0);
        house.feed(0x6b656570, 0x20333b30, 0x30303030, 0x30303030, 0x30303030);
        due("back(13)", house.back(13), 7);
        due("text()", house.text(), 0);
        due("count(3)", house.count(3), 3);
        says(3, "NONE, and nothing goes, if it has not so many, or n is below 0.");
        due("back(1)", house.back(1), NONE);
        house.feed(1, 2, 3, 4, 5);
        for (int n : new int[] {-1, 21, DEEP, FAR}) {
            due("back(" + n + ")", house.back(n), NONE);
            due("count(6)", house.count(6), 20);
        }
    }

    private static void promise4() {
        says(4, "The tape (empty then, behind a FAULT, too) is the TEXT, all anew, and it BEGINS: "
            + "how many CELLS (BASES times PARTS);");
        read("", 0);
        read("benches 3;keep 4;rule 1;", 0);
        read("part 30 9 9;part 1 0 1;part 01 00 09;base 9;base 1;base 09;", 9);
        read("part 4 0 2;base 2;", 1);
        read("base 2;part 4 0 2;base 2;cell 1 0 8 12 9;works 0 9;", 2);
        read("part 4 0 2;part 4 0 2;part 4 0 2;", 0);
        read("base 2;base 2;", 0);
        SparesHouse house = told(SENDING + "works 0 2;");
        house.breaks(0, 0);
        house.keep(3);
        house.pass(5);
        due("a fault", tell(house, "part 1 0 1;base;"), -4 - 15);
        due("count(6) behind a fault", house.count(6), 0);
        due("a text", tell(house, "part 7 1 1;base 4;"), 1);
        due("count(6)", house.count(6), 0);
        due("count(3)", house.count(3), 0);
        for (int what = 0; what <= 10; what++) {
            due("played(" + what + ")", house.played(what), 0);
        }
        for (int what = 0; what <= 8; what++) {
            due("cell(0, 0, " + what + ")", house.cell(0, 0, what), 0);
        }
        due("part(0, 0)", house.part(0, 0), 7);
        due("part(0, 4)", house.part(0, 4), 0);
        due("base(0, 0)", house.base(0, 0), 4);
        due("base(1, 0)", house.base(1, 0), NONE);
        due("undo()", house.undo(), NONE);
        due("an empty text", house.text(), 0);
        due("count(0)", house.count(0), 0);
    }

    private static void promise4Faults() {
        says(4, "-4 less its FAULT, and all else stays.");
        faultAt("x", 0);
        faultAt("bench", 0);
        faultAt("keep 1;ru", 7);
        faultAt("benches keep", 8);
        faultAt("benches 3x;", 9);
        faultAt("benches 3; 7", 11);
        faultAt("base 1;part 1 0 1;cell 0 0 8 12 9", 33);
        faultAt(" ".repeat(399) + "?", 399);
        faultAt(" ".repeat(396) + "keep", 400);
        // But for the tape, which is empty behind both.
        changesNothing("a fault", h -> {
            busy(h);
            h.back(h.count(6));
        }, h -> tell(h, "keep 3;benches 2;part 1 0 1;part 9 9 9;base 9;works 0 9;cell 0 0 8 12 9;?"), -4 - 72);
    }

    private static void promise5() {
        says(5, "A piece BREAKS: the number of its WAY;");
        SparesHouse house = told(SENDING);
        due("breaks(0, 0)", house.breaks(0, 0), 0);
        due("cell(0, 0, 3)", house.cell(0, 0, 3), 0);
        due("cell(0, 0, 4)", house.cell(0, 0, 4), 0);
        due("breaks(0, 0)", house.breaks(0, 0), 1);
        due("breaks(0, 0)", house.breaks(0, 0), 2);
        due("cell(0, 0, 4)", house.cell(0, 0, 4), 2);
        due("played(1)", house.played(1), 3);
        due("played(8)", house.played(8), 0);
        due("call(0, 2, 0)", house.call(0, 2, 0), 0);
        // With a spare at the works the call is answered at once, behind the broken piece's way.
        house = told(SENDING + "works 0 1;");
        due("breaks(1, 0)", house.breaks(1, 0), 0);
        due("way(0, 0)", house.way(0, 0), 1);
        due("way(1, 0)", house.way(1, 0), 3);
        due("breaks(1, 0)", house.breaks(1, 0), 2);
        house = told(LENDING);
        due("breaks(1, 0)", house.breaks(1, 0), 0);
        due("way(0, 0)", house.way(0, 0), 0);
        due("part(0, 5)", house.part(0, 5), 0);
        says(5, "NONE, and nothing happens: no such CELL, it has not fewer HOLES than UNITS.");
        Recipe three = h -> {
            tell(h, SENDING);
            h.breaks(0, 0);
            h.breaks(0, 0);
            h.breaks(0, 0);
        };
        changesNothing("breaks(0, 0)", three, h -> h.breaks(0, 0), NONE);
        changesNothing("breaks(0, 1)", three, h -> h.breaks(0, 1), NONE);
        changesNothing("breaks(2, 0)", three, h -> h.breaks(2, 0), NONE);
        changesNothing("breaks(-1, 0)", three, h -> h.breaks(-1, 0), NONE);
        changesNothing("breaks(0, -1)", three, h -> h.breaks(0, -1), NONE);
        changesNothing("breaks(far, deep)", three, h -> h.breaks(FAR, DEEP), NONE);
    }

    private static void promise6() {
        says(6, "DAYS go by (1 .. 30): DAY then;");
        SparesHouse house = threeSent();
        due("pass(2)", house.pass(2), 2);
        due("on benches", house.part(0, 7), 1);
        due("waiting", house.part(0, 6), 2);
        due("pass(1)", house.pass(1), 3);
        due("played(8)", house.played(8), 0);
        due("pass(1)", house.pass(1), 4);
        due("played(8)", house.played(8), 1);
        due("pass(2)", house.pass(2), 6);
        due("played(4)", house.played(4), 1);
        due("pass(4)", house.pass(4), 10);
        due("played(4)", house.played(4), 2);
        due("played(5)", house.played(5), 14);
        due("cell(0, 0, 3)", house.cell(0, 0, 3), 1);
        due("pass(30)", house.pass(30), 40);
        due("played(9)", house.played(9), 0);
        says(6, "NONE, and nothing happens: others, it would be above 9999.");
        for (int days : new int[] {0, -1, 31, DEEP, FAR}) {
            changesNothing("pass(" + days + ")", Checks::busy, h -> h.pass(days), NONE);
        }
        house = nearTheEnd();
        due("pass(10)", house.pass(10), NONE);
        due("pass(8)", house.pass(8), 9998);
        due("pass(2)", house.pass(2), NONE);
        due("pass(1)", house.pass(1), 9999);
        due("pass(1)", house.pass(1), NONE);
        due("played(0)", house.played(0), 9999);
    }

    /** Day 9990 of a house of one cell. */
    private static SparesHouse nearTheEnd() {
        SparesHouse house = told("part 1 9 1;base 1;cell 0 0 8 0 0;");
        goTo(house, 9990);
        return house;
    }

    private static void promise7() {
        says(7, "A RUN (1 .. 30 DAYS): how many pieces broke;");
        String text = "part 1 9 1;part 1 9 1;base 1;base 1;"
            + "cell 0 0 8 4 9;cell 0 1 8 5 9;cell 1 0 8 4 9;cell 1 1 8 12 9;";
        SparesHouse house = told(text);
        // Draws by seed 7: 1 3 4 5, 8 4 0 0, 6 5 0 10.
        due("run(3, 7)", house.run(3, 7), 8);
        due("played(0)", house.played(0), 3);
        due("cell(0, 0, 7)", house.cell(0, 0, 7), 1);
        due("cell(0, 1, 7)", house.cell(0, 1, 7), 2);
        due("cell(1, 0, 7)", house.cell(1, 0, 7), 2);
        due("cell(1, 1, 7)", house.cell(1, 1, 7), 3);
        // Seed -1 draws 1 0 3 9 first: a draw below 4, 5, 4, 12.
        house = told(text);
        due("run(1, -1)", house.run(1, -1), 4);
        // A cell without units has its draw, too: by seed 7 the third one.
        house = told(text.replace("cell 1 0 8 4 9;", "cell 1 0 0 12 9;").replace("cell 1 1 8 12 9;", "cell 1 1 8 5 9;"));
        due("run(1, 7)", house.run(1, 7), 2);
        house = new SparesHouse();
        due("run(30, 5)", house.run(30, 5), 0);
        due("played(0)", house.played(0), 30);
        // Each day: one piece breaks ahead of the day that goes by.
        house = told("part 1 9 1;base 1;cell 0 0 2 12 0;");
        due("run(4, 3)", house.run(4, 3), 2);
        due("played(5)", house.played(5), 7);
        says(7, "NONE, and nothing happens: others, DAY would be above 9999.");
        for (int days : new int[] {0, -1, 31, DEEP, FAR}) {
            changesNothing("run(" + days + ", 7)", Checks::busy, h -> h.run(days, 7), NONE);
        }
        house = nearTheEnd();
        due("run(10, 7)", house.run(10, 7), NONE);
        due("played(0)", house.played(0), 9990);
        due("run(9, 7)", house.run(9, 7), 0);
        due("run(1, 7)", house.run(1, 7), NONE);
        due("played(0)", house.played(0), 9999);
    }

    private static void promise8() {
        says(8, "A spare more for a CELL (STOCK is one more) comes there, as a piece that comes: STOCK then;");
        SparesHouse house = told(SENDING);
        due("buy(1, 0)", house.buy(1, 0), 1);
        due("cell(1, 0, 2)", house.cell(1, 0, 2), 1);
        due("cell(1, 0, 3)", house.cell(1, 0, 3), 1);
        house.breaks(0, 0);
        house.breaks(0, 0);
        house.pass(1);
        // Base 1's spare is lent on day 1; a bought one fills the want.
        due("buy(0, 0)", house.buy(0, 0), 2);
        due("cell(0, 0, 2)", house.cell(0, 0, 2), 2);
        due("cell(0, 0, 3)", house.cell(0, 0, 3), 0);
        due("cell(0, 0, 4)", house.cell(0, 0, 4), 0);
        due("played(4)", house.played(4), 1);
        due("played(5)", house.played(5), 1);
        for (int i = 3; i <= 9; i++) {
            due("buy(0, 0)", house.buy(0, 0), i);
        }
        due("cell(0, 0, 3)", house.cell(0, 0, 3), 7);
        says(8, "NONE, and nothing happens: no such CELL, it is 9.");
        Recipe full = h -> tell(h, SENDING + "cell 0 0 2 0 9;");
        changesNothing("buy(0, 0)", full, h -> h.buy(0, 0), NONE);
        changesNothing("buy(0, 1)", full, h -> h.buy(0, 1), NONE);
        changesNothing("buy(2, 0)", full, h -> h.buy(2, 0), NONE);
        changesNothing("buy(-1, -1)", full, h -> h.buy(-1, -1), NONE);
    }

    private static void promise9() {
        says(9, "A spare of a CELL goes (STOCK, HAND one less): STOCK then;");
        SparesHouse house = told("part 5 0 2;base 2;cell 0 0 2 0 2;");
        due("sell(0, 0)", house.sell(0, 0), 1);
        due("cell(0, 0, 2)", house.cell(0, 0, 2), 1);
        due("cell(0, 0, 3)", house.cell(0, 0, 3), 1);
        due("sell(0, 0)", house.sell(0, 0), 0);
        due("cell(0, 0, 2)", house.cell(0, 0, 2), 0);
        due("cell(0, 0, 3)", house.cell(0, 0, 3), 0);
        says(9, "NONE, and nothing happens: no such CELL, one of both is 0.");
        Recipe out = h -> {
            tell(h, "part 5 0 2;base 2;cell 0 0 2 0 1;");
            h.breaks(0, 0);
        };
        changesNothing("sell without a hand", out, h -> h.sell(0, 0), NONE);
        changesNothing("sell(1, 0)", out, h -> h.sell(1, 0), NONE);
        changesNothing("sell(0, 1)", out, h -> h.sell(0, 1), NONE);
        changesNothing("sell(far, far)", out, h -> h.sell(FAR, FAR), NONE);
        changesNothing("sell of none", h -> tell(h, "part 5 0 2;base 2;"), h -> h.sell(0, 0), NONE);
        // A lent piece that comes late is in hand though there is no stock.
        Recipe lent = h -> {
            tell(h, LENDING);
            h.breaks(0, 0);
            h.pass(4);
        };
        changesNothing("sell without a stock", lent, h -> h.sell(0, 0), NONE);
        changesNothing("its hand", lent, h -> h.cell(0, 0, 3), 1);
    }

    private static void promise10() {
        says(10, "A spare more for the works (its STOCK is one more) comes to their HAND: that STOCK then;");
        SparesHouse house = told(SENDING);
        due("supply(0)", house.supply(0), 1);
        due("part(0, 3)", house.part(0, 3), 1);
        due("part(0, 4)", house.part(0, 4), 1);
        house.breaks(0, 0);
        house.breaks(1, 0);
        due("part(0, 5)", house.part(0, 5), 1);
        due("supply(0)", house.supply(0), 2);
        due("part(0, 5)", house.part(0, 5), 0);
        due("part(0, 4)", house.part(0, 4), 0);
        due("cell(1, 0, 6)", house.cell(1, 0, 6), 1);
        for (int i = 3; i <= 9; i++) {
            due("supply(0)", house.supply(0), i);
        }
        due("part(0, 3)", house.part(0, 3), 9);
        due("part(0, 4)", house.part(0, 4), 7);
        says(10, "NONE, and nothing happens: no such PART, it is 9.");
        Recipe full = h -> tell(h, SENDING + "works 0 9;");
        for (int part : new int[] {0, 1, -1, DEEP, FAR}) {
            changesNothing("supply(" + part + ")", full, h -> h.supply(part), NONE);
        }
    }

    private static void promise11() {
        says(11, "PRICE (what 0), MEND (1), WORK (2) of a PART is another one from now on (what is under way stays): "
            + "which it was;");
        SparesHouse house = told("part 5 0 2;base 2;cell 0 0 8 6 0;");
        house.breaks(0, 0);
        due("set(0, 0, 30)", house.set(0, 0, 30), 5);
        due("set(0, 1, 9)", house.set(0, 1, 9), 0);
        due("set(0, 2, 9)", house.set(0, 2, 9), 2);
        due("part(0, 0)", house.part(0, 0), 30);
        due("part(0, 1)", house.part(0, 1), 9);
        due("part(0, 2)", house.part(0, 2), 9);
        due("what is under way stays", house.way(0, 4), 2);
        house.breaks(0, 0);
        due("mended now", house.way(1, 0), 0);
        due("mended now", house.way(1, 4), 9);
        house.pass(2);
        due("on the bench", house.way(1, 4), 11);
        due("set(0, 2, 1)", house.set(0, 2, 1), 9);
        due("what is on a bench stays", house.way(1, 4), 11);
        house.undo();
        due("buys(0, 3) by the new price", house.buys(0, 3), 30);
        due("set(0, 0, 1)", house.set(0, 0, 1), 30);
        due("buys(0, 3) by the new price", house.buys(0, 3), 1);
        house.undo();
        due("buys(0, 3) by the old price", house.buys(0, 3), 30);
        due("part(0, 0)", house.part(0, 0), 30);
        house.set(0, 1, 1);
        house.breaks(0, 0);
        due("mended in a day", house.way(0, 4), 3);
        due("mended in a day", house.way(0, 0), 0);
        says(11, "NONE: no such ones, out of bounds, it is so.");
        int[][] refused = {{0, 0, 5}, {0, 0, 0}, {0, 0, 31}, {0, 1, 0}, {0, 1, -1}, {0, 1, 10}, {0, 2, 2}, {0, 2, 0},
            {0, 2, 10}, {0, 3, 1}, {0, -1, 1}, {1, 0, 1}, {-1, 0, 1}};
        for (int[] one : refused) {
            changesNothing("set(" + one[0] + ", " + one[1] + ", " + one[2] + ")", h -> tell(h, "part 5 0 2;base 2;"),
                h -> h.set(one[0], one[1], one[2]), NONE);
        }
    }

    private static void promise12() {
        says(12, "ODDS of a CELL are others: which they were;");
        String text = "part 5 0 2;base 2;cell 0 0 1 6 0;";
        SparesHouse house = told(text);
        due("lacks()", house.lacks(), TO_8 / 2);
        due("odds(0, 0, 12)", house.odds(0, 0, 12), 6);
        due("lacks()", house.lacks(), TO_8);
        due("cell(0, 0, 1)", house.cell(0, 0, 1), 12);
        due("run(1, 9)", house.run(1, 9), 1);
        due("odds(0, 0, 0)", house.odds(0, 0, 0), 12);
        due("lacks()", house.lacks(), 0);
        due("count(5)", house.count(5), 3);
        house.undo();
        due("lacks() undone", house.lacks(), TO_8);
        says(12, "NONE: no such CELL, out of bounds, it is so.");
        int[][] refused = {{0, 0, 6}, {0, 0, -1}, {0, 0, 13}, {0, 1, 1}, {1, 0, 1}, {-1, 0, 1}, {0, -1, 1}, {FAR, DEEP, 1}};
        for (int[] one : refused) {
            changesNothing("odds(" + one[0] + ", " + one[1] + ", " + one[2] + ")", h -> tell(h, text),
                h -> h.odds(one[0], one[1], one[2]), NONE);
        }
    }

    private static void promise13() {
        says(13, "BENCHES are as many (1 .. 3; what is on one stays on it; if there are more, those that wait may begin): "
            + "how many they were;");
        SparesHouse house = told("benches 2;part 5 0 9;base 1;cell 0 0 8 0 9;");
        for (int i = 0; i < 5; i++) {
            house.breaks(0, 0);
        }
        house.pass(1);
        due("part(0, 7)", house.part(0, 7), 2);
        due("benches(3)", house.benches(3), 2);
        due("part(0, 7)", house.part(0, 7), 3);
        due("part(0, 6)", house.part(0, 6), 2);
        due("benches(1)", house.benches(1), 3);
        due("what is on a bench stays", house.part(0, 7), 3);
        due("played(0)", house.pass(9), 10);
        due("one bench now", house.part(0, 7), 1);
        due("part(0, 6)", house.part(0, 6), 1);
        due("count(2)", house.count(2), 1);
        says(13, "NONE: out of bounds, it is so.");
        for (int n : new int[] {1, 0, -1, 4, DEEP, FAR}) {
            changesNothing("benches(" + n + ")", Checks::busy, h -> h.benches(n), NONE);
        }
    }

    private static void promise14() {
        says(14, "KEEP is another one: which it was;");
        SparesHouse house = told("keep 2;" + LENDING);
        house.breaks(0, 0);
        house.pass(1);
        due("played(7)", house.played(7), 0);
        due("keep(1)", house.keep(1), 2);
        due("lent as a day goes by", house.played(7), 0);
        house.pass(1);
        due("played(7)", house.played(7), 1);
        due("keep(4)", house.keep(4), 1);
        due("keep(0)", house.keep(0), 4);
        due("count(3)", house.count(3), 0);
        says(14, "NONE: out of bounds, it is so.");
        for (int n : new int[] {1, -1, 5, DEEP, FAR}) {
            changesNothing("keep(" + n + ")", Checks::busy, h -> h.keep(n), NONE);
        }
    }

    private static void promise15() {
        says(15, "RULE is the other one: which it was.");
        for (int rule = 0; rule <= 1; rule++) {
            SparesHouse house = told("part 5 0 2;base 2;base 2;cell 0 0 3 6 1;cell 1 0 3 6 0;");
            house.breaks(0, 0);
            house.breaks(1, 0);
            if (rule == 1) {
                due("rule()", house.rule(), 0);
                due("count(4)", house.count(4), 1);
            }
            // Base 0 called first, base 1 has a want.
            house.supply(0);
            due("shipped to", house.cell(rule, 0, 6), 1);
            due("the call that is left", house.call(0, 0, 0), 1 - rule);
        }
        SparesHouse house = told("rule 1;part 5 0 2;base 2;base 2;base 2;cell 0 0 3 0 0;cell 1 0 3 0 0;cell 2 0 3 0 0;");
        for (int base : new int[] {0, 2, 1, 1, 2}) {
            house.breaks(base, 0);
        }
        house.supply(0);
        due("of bases with most wants the oldest call", house.cell(2, 0, 6), 1);
        house.supply(0);
        house.supply(0);
        due("then base 1, which called ahead of base 2's second call", house.cell(1, 0, 6), 2);
        due("cell(2, 0, 6)", house.cell(2, 0, 6), 1);
        due("rule()", house.rule(), 1);
        due("count(4)", house.count(4), 0);
        house.supply(0);
        due("the oldest of all", house.cell(0, 0, 6), 1);
    }

    private static void promise16() {
        says(16, "It BEGINS: which DAY it was.");
        SparesHouse house = told(SENDING + "works 0 2;");
        house.breaks(0, 0);
        house.breaks(0, 0);
        house.breaks(1, 0);
        house.buy(1, 0);
        house.supply(0);
        house.pass(7);
        due("begin()", house.begin(), 7);
        for (int what = 0; what <= 10; what++) {
            due("played(" + what + ")", house.played(what), 0);
        }
        due("count(9)", house.count(9), 0);
        due("cell(0, 0, 3)", house.cell(0, 0, 3), 1);
        due("cell(1, 0, 3)", house.cell(1, 0, 3), 1);
        due("cell(1, 0, 4)", house.cell(1, 0, 4), 0);
        due("part(0, 4)", house.part(0, 4), 3);
        due("begin()", house.begin(), 0);
        due("count(5)", house.count(5), 8);
        due("breaks(0, 0)", house.breaks(0, 0), 0);
        house = nearTheEnd();
        house.pass(9);
        due("begin() of the last day", house.begin(), 9999);
    }

    private static void promise17() {
        says(17, "The latest ACT is taken back: how many more can be;");
        SparesHouse house = told(SENDING);
        for (int i = 1; i <= 15; i++) {
            house.pass(i);
            due("count(5)", house.count(5), Math.min(i, 12));
        }
        // 120 days: the passes of 15 down to 4 days can be taken back, 1 + 2 + 3 can't.
        for (int i = 11; i >= 0; i--) {
            due("undo()", house.undo(), i);
        }
        due("played(0)", house.played(0), 6);
        house.breaks(0, 0);
        house.breaks(0, 0);
        house.benches(3);
        house.rule();
        house.supply(0);
        house.begin();
        due("undo()", house.undo(), 5);
        due("played(0)", house.played(0), 6);
        due("played(1)", house.played(1), 2);
        due("played(8)", house.played(8), 1);
        due("undo()", house.undo(), 4);
        due("played(8)", house.played(8), 0);
        due("part(0, 5)", house.part(0, 5), 2);
        due("count(4)", house.count(4), 1);
        due("undo()", house.undo(), 3);
        due("count(4)", house.count(4), 0);
        due("undo()", house.undo(), 2);
        due("count(2)", house.count(2), 1);
        house.feed(0, 0, 0, 0, 0);
        due("undo()", house.undo(), 1);
        due("the tape stays", house.count(6), 20);
        due("want(0, 0)", house.want(0, 0), NONE);
        due("cell(0, 0, 3)", house.cell(0, 0, 3), 0);
        due("breaks(0, 0)", house.breaks(0, 0), 1);
        everyAct();
        says(17, "NONE: none can.");
        due("undo() of a new one", new SparesHouse().undo(), NONE);
        changesNothing("undo() behind a text", h -> tell(h, SENDING), SparesHouse::undo, NONE);
        for (int i = 1; i >= 0; i--) {
            due("undo()", house.undo(), i);
        }
        due("undo()", house.undo(), NONE);
        due("played(0)", house.played(0), 6);
    }

    private static void everyAct() {
        isAnAct("breaks(1, 1)", Checks::busy, h -> h.breaks(1, 1), 10);
        isAnAct("pass(3)", Checks::busy, h -> h.pass(3), 5);
        isAnAct("run(3, 0)", h -> tell(h, SENDING), h -> h.run(3, 0), 0);
        isAnAct("buy(0, 1)", Checks::busy, h -> h.buy(0, 1), 1);
        isAnAct("sell(1, 1)", Checks::busy, h -> h.sell(1, 1), 8);
        isAnAct("supply(0)", Checks::busy, h -> h.supply(0), 2);
        isAnAct("set(0, 2, 8)", Checks::busy, h -> h.set(0, 2, 8), 9);
        isAnAct("odds(0, 0, 6)", Checks::busy, h -> h.odds(0, 0, 6), 5);
        isAnAct("benches(3)", Checks::busy, h -> h.benches(3), 1);
        isAnAct("keep(0)", Checks::busy, h -> h.keep(0), 1);
        isAnAct("rule()", Checks::busy, SparesHouse::rule, 1);
        isAnAct("begin()", Checks::busy, SparesHouse::begin, 2);
    }

    private static void promise18() {
        says(18, "Of a PART: 0 PRICE, 1 MEND, 2 WORK, 3 the works' STOCK, 4 their HAND, 5 CALLS, "
            + "6 broken pieces that wait at the works, 7 those on BENCHES, 8 those that are SENT.");
        SparesHouse house = told("part 1 0 1;part 5 0 9;base 2;base 3;cell 0 1 4 0 0;cell 1 1 4 0 0;cell 0 0 1 0 0;works 1 3;");
        for (int i = 0; i < 4; i++) {
            house.breaks(0, 1);
        }
        house.breaks(1, 1);
        house.breaks(0, 0);
        house.pass(2);
        // Base 0's four are at the works, one of them on the bench; base 1's is sent; three calls were answered.
        row("part(1, what)", house, new int[] {5, 0, 9, 3, 0, 2, 3, 1, 1}, (h, i) -> h.part(1, i));
        row("part(0, what)", house, new int[] {1, 0, 1, 0, 0, 1, 1, 0, 0}, (h, i) -> h.part(0, i));
        row("part(0, what)", told("part 30 7 9;works 0 6;"), new int[] {30, 7, 9, 6, 6, 0, 0, 0, 0}, (h, i) -> h.part(0, i));
        says(18, "NONE for others.");
        for (int part : new int[] {-1, 2, DEEP, FAR}) {
            for (int what = -1; what <= 9; what++) {
                due("part(" + part + ", " + what + ")", house.part(part, what), NONE);
            }
        }
        due("part(1, 9)", house.part(1, 9), NONE);
        due("part(1, -1)", house.part(1, -1), NONE);
    }

    private static void promise19() {
        says(19, "Of a BASE: 0 SHIP, 1 WANTS, 2 CALLS, 3 pieces SHIPPED or LENT to it that are under way, 4 pieces in HAND.");
        SparesHouse house = told("part 1 0 1;part 5 0 9;base 2;base 3;cell 0 0 2 0 2;cell 0 1 3 0 1;cell 1 1 4 0 0;works 1 1;");
        house.breaks(1, 1);
        house.breaks(1, 1);
        house.breaks(0, 1);
        house.breaks(0, 1);
        house.breaks(0, 0);
        row("base(0, what)", house, new int[] {2, 1, 3, 0, 1}, (h, i) -> h.base(0, i));
        row("base(1, what)", house, new int[] {3, 2, 1, 1, 0}, (h, i) -> h.base(1, i));
        SparesHouse lent = told(LENDING);
        lent.breaks(0, 0);
        lent.pass(1);
        row("base(0, what)", lent, new int[] {2, 1, 0, 1, 0}, (h, i) -> h.base(0, i));
        row("base(2, what)", lent, new int[] {1, 0, 0, 0, 1}, (h, i) -> h.base(2, i));
        says(19, "NONE for others.");
        for (int base : new int[] {-1, 2, DEEP, FAR}) {
            for (int what = -1; what <= 5; what++) {
                due("base(" + base + ", " + what + ")", house.base(base, what), NONE);
            }
        }
        due("base(0, 5)", house.base(0, 5), NONE);
        due("base(0, -1)", house.base(0, -1), NONE);
    }

    private static void promise20() {
        says(20, "Of a CELL: 0 UNITS, 1 ODDS, 2 STOCK, 3 HAND, 4 HOLES, 5 CALLS, "
            + "6 pieces SHIPPED or LENT to it that are under way, 7 MENDED ones under way, "
            + "8 pieces LENT to it since it began less those LENT from it (as they begin; it may be below 0;");
        SparesHouse house = told("part 1 3 1;part 5 0 9;base 2;base 3;cell 0 0 2 5 1;cell 0 1 3 4 1;cell 1 1 4 0 2;works 1 1;");
        house.breaks(0, 0);
        house.breaks(0, 0);
        house.breaks(0, 1);
        house.breaks(0, 1);
        house.breaks(0, 1);
        house.pass(1);
        int[][] want = {{2, 5, 1, 0, 1, 0, 0, 2, 0}, {3, 4, 1, 0, 2, 2, 3, 0, 2}, {0, 0, 0, 0, 0, 0, 0, 0, 0},
            {4, 0, 2, 0, 0, 0, 0, 0, -2}};
        for (int cell = 0; cell < 4; cell++) {
            int at = cell;
            row("cell(" + cell / 2 + ", " + cell % 2 + ", what)", house, want[cell], (h, i) -> h.cell(at / 2, at % 2, i));
        }
        house.pass(5);
        due("LENT ones that came count too", house.cell(0, 1, 8), 2);
        due("they are under way no more", house.cell(0, 1, 6), 0);
        house.begin();
        due("cell(0, 1, 8) since it began", house.cell(0, 1, 8), 0);
        says(20, "-1000: no such CELL).");
        for (int none : new int[] {-1, 2, DEEP, FAR}) {
            due("cell(" + none + ", 0, 8)", house.cell(none, 0, 8), -1000);
            due("cell(0, " + none + ", 8)", house.cell(0, none, 8), -1000);
        }
        due("cell(0, 0, 8) of none", new SparesHouse().cell(0, 0, 8), -1000);
        says(20, "NONE for others.");
        for (int what : new int[] {0, 1, 2, 3, 4, 5, 6, 7, 9, -1, DEEP, FAR}) {
            due("cell(2, 0, " + what + ")", house.cell(2, 0, what), NONE);
            due("cell(0, 2, " + what + ")", house.cell(0, 2, what), NONE);
        }
        due("cell(0, 0, 9)", house.cell(0, 0, 9), NONE);
        due("cell(0, 0, -1)", house.cell(0, 0, -1), NONE);
    }

    private static void promise21() {
        says(21, "The k-th WANT that is not filled, the oldest first: "
            + "0 its BASE, 1 its PART, 2 its DAY, 3: 1 it was lent for, else 0.");
        SparesHouse house = told("part 1 9 1;part 1 2 1;base 2;base 3;cell 0 0 1 0 0;cell 0 1 1 0 0;cell 1 0 1 0 0;cell 1 1 1 0 1;");
        house.breaks(1, 0);
        house.pass(1);
        house.breaks(0, 1);
        house.breaks(0, 0);
        house.pass(1);
        wantsAre(house, new int[][] {{1, 0, 0, 0}, {0, 1, 1, 1}, {0, 0, 1, 0}});
        house.pass(1);
        wantsAre(house, new int[][] {{1, 0, 0, 0}, {0, 0, 1, 0}});
        says(21, "NONE: no such ones.");
        for (int none : new int[] {2, -1, DEEP, FAR}) {
            due("want(" + none + ", 0)", house.want(none, 0), NONE);
        }
        for (int none : new int[] {4, -1, DEEP, FAR}) {
            due("want(0, " + none + ")", house.want(0, none), NONE);
        }
    }

    private static void promise22() {
        says(22, "The k-th CALL of a PART that is not ANSWERED, the oldest first: 0 its BASE, 1 its DAY.");
        SparesHouse house = told("part 1 0 1;part 1 0 1;base 9;base 9;cell 0 0 2 0 2;cell 0 1 1 0 2;cell 1 0 1 0 2;");
        house.breaks(1, 0);
        house.pass(2);
        house.breaks(0, 1);
        house.breaks(0, 0);
        house.breaks(0, 0);
        callsAre(house, 0, new int[][] {{1, 0}, {0, 2}, {0, 2}});
        callsAre(house, 1, new int[][] {{0, 2}});
        house.supply(0);
        callsAre(house, 0, new int[][] {{0, 2}, {0, 2}});
        says(22, "NONE: no such ones.");
        int[][] refused = {{0, 2, 0}, {0, -1, 0}, {1, 1, 0}, {2, 0, 0}, {-1, 0, 0}, {0, 0, 2}, {0, 0, -1}, {0, FAR, 0}, {DEEP, 0, 1}};
        for (int[] one : refused) {
            due("call(" + one[0] + ", " + one[1] + ", " + one[2] + ")", house.call(one[0], one[1], one[2]), NONE);
        }
    }

    private static void promise23() {
        says(23, "The k-th of WAYS under way, by the DAYS on which they come, then by numbers: 0 which kind, 1 its number, "
            + "2 its PART, 3 the BASE (to which it goes; MENDED: where it is; SENT: from which; -2: on a BENCH), "
            + "4 the DAY on which it comes.");
        SparesHouse house = told("part 1 9 1;part 1 0 4;base 2;base 3;cell 0 0 2 0 2;cell 0 1 2 0 2;cell 1 1 2 0 0;works 1 1;");
        house.breaks(0, 0);
        house.breaks(1, 1);
        house.breaks(0, 1);
        waysAre(house, new int[][] {{1, 3, 1, 0, 2}, {1, 1, 1, 1, 3}, {3, 2, 1, 1, 3}, {0, 0, 0, 0, 9}});
        house.pass(2);
        // Base 0's spare was lent on day 1, 2 + 3 days; the sent one is on the bench from day 2 on.
        waysAre(house, new int[][] {{1, 1, 1, 1, 3}, {3, 2, 1, 1, 3}, {4, 4, 1, 1, 6}, {2, 5, 1, -2, 6}, {0, 0, 0, 0, 9}});
        says(23, "NONE: no such ones.");
        for (int none : new int[] {5, -1, DEEP, FAR}) {
            due("way(" + none + ", 0)", house.way(none, 0), NONE);
            due("way(0, " + none + ")", house.way(0, none), NONE);
        }
    }

    private static void promise24() {
        says(24, "The PART of the k-th broken piece that waits at the works, the first first.");
        SparesHouse house = told("part 1 0 9;part 1 0 9;base 1;base 2;cell 0 0 2 0 2;cell 0 1 2 0 2;cell 1 0 2 0 2;");
        house.breaks(1, 0);
        house.breaks(0, 1);
        house.breaks(0, 0);
        house.breaks(0, 1);
        house.pass(2);
        // Of base 0's three the first is on the bench; base 1's came a day later.
        row("waits", house, new int[] {0, 1, 0}, (h, i) -> h.waits(i));
        house.pass(8);
        row("waits", house, new int[] {1, 0}, (h, i) -> h.waits(i));
        says(24, "NONE: no such one.");
        for (int none : new int[] {2, -1, DEEP, FAR}) {
            due("waits(" + none + ")", house.waits(none), NONE);
        }
        due("waits(0)", new SparesHouse().waits(0), NONE);
    }

    private static void promise25() {
        says(25, "Since it began: 0 the DAY, 1 pieces that broke, 2 of these for which there was a HAND, "
            + "3 WANTS that are not filled, 4 those that were, 5 LATE, 6 the most DAYS that one WANT waited "
            + "(LATE likewise; 0 without), 7 pieces LENT, 8 CALLS ANSWERED, 9 WAYS under way, "
            + "10 pieces that wait at the works.");
        SparesHouse house = threeSent();
        house.pass(3);
        row("played", house, new int[] {3, 3, 1, 2, 0, 6, 3, 0, 0, 1, 2}, (h, i) -> h.played(i));
        house.pass(4);
        // Day 6 filled one want of day 0; on the bench the third piece, the second one is shipped.
        row("played", house, new int[] {7, 3, 1, 1, 1, 13, 7, 0, 2, 2, 0}, (h, i) -> h.played(i));
        house.pass(3);
        due("played(6)", house.played(6), 8);
        house = told(LENDING);
        row("played", house, new int[11], (h, i) -> h.played(i));
        house.breaks(0, 0);
        house.pass(3);
        due("played(6)", house.played(6), 3);
        due("played(7)", house.played(7), 1);
        house.breaks(0, 0);
        house.pass(1);
        due("the longest wait stays", house.played(6), 3);
        due("played(4)", house.played(4), 2);
        due("played(5)", house.played(5), 4);
        says(25, "NONE for others.");
        for (int none : new int[] {11, -1, DEEP, FAR}) {
            due("played(" + none + ")", house.played(none), NONE);
        }
    }

    private static void promise26() {
        says(26, "In how many ways just x (0 .. 8) of a CELL are OUT.");
        SparesHouse house = told(WEIGHED + "base 2;cell 1 0 8 12 0;cell 1 1 8 1 0;");
        due("out(0, 0, 0)", house.out(0, 0, 0), 81 * TO_6);
        due("out(0, 0, 1)", house.out(0, 0, 1), 54 * TO_6);
        due("out(0, 0, 2)", house.out(0, 0, 2), 9 * TO_6);
        due("out(0, 0, 3)", house.out(0, 0, 3), 0);
        due("out(0, 0, 8)", house.out(0, 0, 8), 0);
        due("out(1, 0, 8)", house.out(1, 0, 8), TO_8);
        due("out(1, 0, 7)", house.out(1, 0, 7), 0);
        due("out(1, 1, 8)", house.out(1, 1, 8), 1);
        due("out(1, 1, 7)", house.out(1, 1, 7), 88);
        due("out(1, 1, 0)", house.out(1, 1, 0), 214358881);
        due("a cell without units", told("part 1 0 1;base 1;").out(0, 0, 0), TO_8);
        says(26, "NONE: no such ones.");
        due("out(0, 0, 9)", house.out(0, 0, 9), NONE);
        due("out(0, 0, -1)", house.out(0, 0, -1), NONE);
        due("out(2, 0, 0)", house.out(2, 0, 0), NONE);
        due("out(0, 2, 0)", house.out(0, 2, 0), NONE);
        due("out(-1, 0, 0)", house.out(-1, 0, 0), NONE);
    }

    private static void promise27() {
        says(27, "LACK of a CELL by s (0 .. 9) spares.");
        SparesHouse house = told(WEIGHED + "base 2;cell 1 0 8 12 0;");
        due("lack(0, 0, 0)", house.lack(0, 0, 0), 72 * TO_6);
        due("lack(0, 0, 1)", house.lack(0, 0, 1), 9 * TO_6);
        due("lack(0, 0, 2)", house.lack(0, 0, 2), 0);
        due("lack(0, 1, 0)", house.lack(0, 1, 0), 72 * TO_6);
        due("lack(1, 0, 0)", house.lack(1, 0, 0), 8 * TO_8);
        due("lack(1, 0, 7)", house.lack(1, 0, 7), TO_8);
        due("lack(1, 0, 8)", house.lack(1, 0, 8), 0);
        due("lack(1, 0, 9)", house.lack(1, 0, 9), 0);
        says(27, "NONE: no such ones.");
        due("lack(1, 0, 10)", house.lack(1, 0, 10), NONE);
        due("lack(1, 0, -1)", house.lack(1, 0, -1), NONE);
        due("lack(2, 0, 0)", house.lack(2, 0, 0), NONE);
        due("lack(0, -1, 0)", house.lack(0, -1, 0), NONE);
    }

    private static void promise28() {
        says(28, "LACKS by STOCKS of all CELLS (the works' do not count).");
        SparesHouse house = told(WEIGHED + "works 0 9;");
        due("lacks()", house.lacks(), 144 * TO_6);
        house.buy(0, 0);
        due("lacks()", house.lacks(), 81 * TO_6);
        house.buy(0, 1);
        due("lacks()", house.lacks(), 9 * TO_6);
        house.undo();
        due("lacks()", house.lacks(), 81 * TO_6);
        house.supply(1);
        due("lacks(): the works' do not count", house.lacks(), 81 * TO_6);
        house.breaks(0, 0);
        due("lacks() by the stock, not the hand", house.lacks(), 81 * TO_6);
        tell(house, "part 1 0 1;base 1;");
        due("lacks() of another text", house.lacks(), 0);
        due("lacks() of none", new SparesHouse().lacks(), 0);
    }

    private static void promise29() {
        says(29, "The least s (0 .. 9) by which no more than s of a CELL are OUT in so many hundredths (0 .. 100) of all ways, "
            + "or more.");
        SparesHouse house = told(WEIGHED + "base 2;cell 1 0 8 12 0;");
        // 56.25, 93.75, 100 of a hundred.
        int[][] sure = {{0, 0}, {56, 0}, {57, 1}, {93, 1}, {94, 2}, {100, 2}};
        for (int[] one : sure) {
            due("sure(0, 0, " + one[0] + ")", house.sure(0, 0, one[0]), one[1]);
        }
        due("just as many", house.sure(0, 1, 50), 0);
        due("sure(0, 1, 51)", house.sure(0, 1, 51), 1);
        due("sure(1, 0, 0)", house.sure(1, 0, 0), 0);
        due("sure(1, 0, 1)", house.sure(1, 0, 1), 8);
        due("sure(1, 1, 100)", house.sure(1, 1, 100), 0);
        says(29, "NONE: no such ones.");
        due("sure(0, 0, 101)", house.sure(0, 0, 101), NONE);
        due("sure(0, 0, -1)", house.sure(0, 0, -1), NONE);
        due("sure(2, 0, 50)", house.sure(2, 0, 50), NONE);
        due("sure(0, 2, 50)", house.sure(0, 2, 50), NONE);
    }

    private static void promise30() {
        says(30, "The k-th BUY: 0 its BASE, 1 its PART, 2 how many spares of that CELL then, "
            + "3 what it and those ahead of it cost.");
        SparesHouse house = told(WEIGHED);
        // Gains for a coin, by 12 to the 6th: 63 / 2, 72 / 9, 9 / 2.
        buysAre(house, new int[][] {{0, 0, 1, 2}, {0, 1, 1, 11}, {0, 0, 2, 13}});
        // Stocks don't matter; of like ones the first.
        SparesHouse like = told("part 2 0 1;part 4 0 1;base 1;base 1;"
            + "cell 0 0 1 3 9;cell 0 1 1 6 0;cell 1 0 2 12 0;cell 1 1 1 6 2;");
        buysAre(like, new int[][] {{1, 0, 1, 2}, {1, 0, 2, 4}, {0, 0, 1, 6}, {0, 1, 1, 10}, {1, 1, 1, 14}});
        says(30, "NONE: no such ones.");
        for (int none : new int[] {3, -1, DEEP, FAR}) {
            due("buys(" + none + ", 0)", house.buys(none, 0), NONE);
        }
        for (int none : new int[] {4, -1, DEEP, FAR}) {
            due("buys(0, " + none + ")", house.buys(0, none), NONE);
        }
        due("buys(8, 2)", told("part 1 0 1;base 1;cell 0 0 8 12 0;").buys(8, 2), NONE);
        due("no parts", new SparesHouse().buys(0, 0), NONE);
    }

    private static void promise31() {
        says(31, "With a PURSE (0 .. 99) by BUYS: 0 how many, 1 what they cost, "
            + "2 of them spares of BASE 0, 3 of BASE 1, 4 of BASE 2.");
        SparesHouse house = told(WEIGHED);
        int[][] bought = {{0, 0, 0}, {1, 0, 0}, {2, 1, 2}, {10, 1, 2}, {11, 2, 11}, {12, 2, 11}, {13, 3, 13}, {99, 3, 13}};
        for (int[] one : bought) {
            row("bought(" + one[0] + ", what)", house, new int[] {one[1], one[2], one[1], 0, 0}, (h, i) -> h.bought(one[0], i));
        }
        house = told("part 2 0 1;base 1;base 1;base 1;cell 0 0 1 3 0;cell 1 0 2 12 0;cell 2 0 1 6 0;");
        row("bought(6, what)", house, new int[] {3, 6, 0, 2, 1}, (h, i) -> h.bought(6, i));
        row("bought(8, what)", house, new int[] {4, 8, 1, 2, 1}, (h, i) -> h.bought(8, i));
        says(31, "NONE for others.");
        for (int what = -1; what <= 5; what++) {
            due("bought(100, " + what + ")", house.bought(100, what), NONE);
            due("bought(-1, " + what + ")", house.bought(-1, what), NONE);
        }
        due("bought(99, 5)", house.bought(99, 5), NONE);
        due("bought(99, -1)", house.bought(99, -1), NONE);
    }

    private static void promise32() {
        says(32, "LACKS then (the BEST ones: best true).");
        SparesHouse house = told(WEIGHED);
        int[][] lacks = {{0, 144, 144}, {1, 144, 144}, {2, 81, 81}, {4, 81, 72}, {10, 81, 72}, {11, 9, 9}, {13, 0, 0}, {99, 0, 0}};
        for (int[] one : lacks) {
            due("lacksBy(" + one[0] + ", false)", house.lacksBy(one[0], false), one[1] * TO_6);
            due("lacksBy(" + one[0] + ", true)", house.lacksBy(one[0], true), one[2] * TO_6);
        }
        // A text of fewer cells than the one ahead of it.
        tell(house, "part 2 0 1;base 1;cell 0 0 1 6 0;");
        due("lacksBy(0, true)", house.lacksBy(0, true), 72 * TO_6);
        due("lacksBy(2, true)", house.lacksBy(2, true), 0);
        due("lacksBy(0, false)", house.lacksBy(0, false), 72 * TO_6);
        house.odds(0, 0, 12);
        due("by other odds", house.lacksBy(0, true), 144 * TO_6);
        house.undo();
        due("undone", house.lacksBy(0, true), 72 * TO_6);
        says(32, "NONE: another PURSE.");
        for (int purse : new int[] {-1, 100, DEEP, FAR}) {
            due("lacksBy(" + purse + ", false)", house.lacksBy(purse, false), NONE);
            due("lacksBy(" + purse + ", true)", house.lacksBy(purse, true), NONE);
        }
    }

    private static void promise33() {
        says(33, "BEST with a PURSE (0 .. 99): how many spares of a CELL.");
        SparesHouse house = told(WEIGHED);
        int[][] best = {{0, 0, 0}, {1, 0, 0}, {2, 1, 0}, {3, 1, 0}, {4, 2, 0}, {9, 2, 0}, {10, 2, 0}, {11, 1, 1}, {12, 1, 1},
            {13, 2, 1}, {99, 2, 1}};
        for (int[] one : best) {
            due("best(" + one[0] + ", 0, 0)", house.best(one[0], 0, 0), one[1]);
            due("best(" + one[0] + ", 0, 1)", house.best(one[0], 0, 1), one[2]);
        }
        // Of like rows the first: 0 1 stands ahead of 1 0.
        SparesHouse like = told("part 3 0 1;base 1;base 1;cell 0 0 1 6 0;cell 1 0 1 6 0;");
        due("best(5, 0, 0)", like.best(5, 0, 0), 0);
        due("best(5, 1, 0)", like.best(5, 1, 0), 1);
        due("best(6, 0, 0)", like.best(6, 0, 0), 1);
        like.set(0, 0, 6);
        due("by another price", like.best(6, 0, 0), 0);
        due("by another price", like.best(5, 1, 0), 0);
        says(33, "NONE: no such ones.");
        due("best(-1, 0, 0)", house.best(-1, 0, 0), NONE);
        due("best(100, 0, 0)", house.best(100, 0, 0), NONE);
        due("best(9, 1, 0)", house.best(9, 1, 0), NONE);
        due("best(9, 0, 2)", house.best(9, 0, 2), NONE);
        due("best(9, -1, 0)", house.best(9, -1, 0), NONE);
    }

    private static void promise34() {
        says(34, "The least PURSE (0 .. 99) with which LACKS of the BEST are no more than so many hundredths (0 .. 100) "
            + "of LACKS without spares;");
        SparesHouse house = told(WEIGHED);
        // 144 without; 81 by 2, 72 by 4, 9 by 11, 0 by 13.
        int[][] purse = {{100, 0}, {99, 2}, {57, 2}, {56, 4}, {50, 4}, {49, 11}, {7, 11}, {6, 13}, {0, 13}};
        for (int[] one : purse) {
            due("purseFor(" + one[0] + ")", house.purseFor(one[0]), one[1]);
        }
        // Three of eight: 62.5 hundredths still lack.
        SparesHouse dear = told("part 30 0 1;base 1;cell 0 0 8 12 0;");
        due("purseFor(63)", dear.purseFor(63), 90);
        due("nothing lacks", new SparesHouse().purseFor(0), 0);
        says(34, "-2: with none.");
        due("purseFor(62)", dear.purseFor(62), -2);
        due("purseFor(0)", dear.purseFor(0), -2);
        says(34, "NONE: out of bounds.");
        for (int none : new int[] {-1, 101, DEEP, FAR}) {
            due("purseFor(" + none + ")", house.purseFor(none), NONE);
            due("purseFor(" + none + ")", dear.purseFor(none), NONE);
        }
    }

    private static void promise35() {
        says(35, "What played() would tell behind a RUN (1 .. 12 DAYS).");
        SparesHouse house = told("part 1 9 1;base 1;cell 0 0 2 12 1;");
        // Day 0 from the hand, day 1 and 2 wants.
        row("would(5, 1, what)", house, new int[] {5, 3, 1, 2, 0, 7, 4, 0, 0, 3, 0}, (h, i) -> h.would(5, 1, i));
        due("would(12, 1, 0)", house.would(12, 1, 0), 12);
        due("nothing happens", house.played(0) + house.played(1) + house.count(5) + house.count(9), 0);
        house.run(5, 1);
        due("would behind it", house.would(1, 1, 5), 9);
        // The seed counts: draws of 7 are 1 3 4 5 8 4, of -1 are 1 0 3 9 10 8.
        house = told("part 1 9 1;base 1;cell 0 0 8 4 9;");
        due("would(6, 7, 1)", house.would(6, 7, 1), 2);
        due("would(6, -1, 1)", house.would(6, -1, 1), 3);
        says(35, "NONE: others, another what, DAY would be above 9999.");
        for (int days : new int[] {0, -1, 13, DEEP, FAR}) {
            due("would(" + days + ", 1, 0)", house.would(days, 1, 0), NONE);
        }
        for (int what : new int[] {11, -1, DEEP, FAR}) {
            due("would(5, 1, " + what + ")", house.would(5, 1, what), NONE);
        }
        house = nearTheEnd();
        due("would(9, 1, 0)", house.would(9, 1, 0), 9999);
        due("would(10, 1, 0)", house.would(10, 1, 0), NONE);
    }

    private static void promise36() {
        says(36, "LATE behind such a RUN less LATE behind it, did a spare come to a CELL first, as by buy() "
            + "(though STOCK is 9);");
        SparesHouse house = threeSent();
        house.pass(2);
        // By day 8: 6 + 8 as it is; 2 + 6, were the oldest filled now.
        due("spared(6, 0, 0, 0)", house.spared(6, 0, 0, 0), 6);
        // A spare at base 1 is lent on day 3, comes on day 8: the second want is filled on day 8 all the same.
        due("spared(6, 0, 1, 0)", house.spared(6, 0, 1, 0), 0);
        due("nothing happens", house.cell(0, 0, 2) + 10 * house.played(3) + 100 * house.count(5), 421);
        SparesHouse full = told("part 1 9 1;base 1;cell 0 0 8 0 9;");
        for (int i = 0; i < 10; i++) {
            full.breaks(0, 0);
        }
        due("though the stock is 9", full.spared(3, 0, 0, 0), 3);
        says(36, "it may be below 0;");
        // As it is 2 + 2 + 1 days, then there is always a piece in hand: one lent too late, one mended.
        // With a spare a want a day from day 1 on, filled on the next one: none waits till it is lent for.
        SparesHouse worse = told("part 1 2 6;base 2;base 1;cell 0 0 1 12 0;cell 1 0 2 0 5;");
        due("spared(8, 1, 0, 0)", worse.spared(8, 1, 0, 0), 5 - 7);
        due("spared(12, 1, 0, 0)", worse.spared(12, 1, 0, 0), 5 - 11);
        says(36, "-100000: no such ones.");
        int[][] refused = {{0, 0, 0}, {13, 0, 0}, {-1, 0, 0}, {6, 2, 0}, {6, 0, 1}, {6, -1, 0}, {6, 0, -1}, {FAR, 0, 0}};
        for (int[] one : refused) {
            due("spared(" + one[0] + ", 0, " + one[1] + ", " + one[2] + ")", house.spared(one[0], 0, one[1], one[2]), -100000);
        }
        house = nearTheEnd();
        due("spared(9, 0, 0, 0)", house.spared(9, 0, 0, 0), 0);
        due("spared(10, 0, 0, 0)", house.spared(10, 0, 0, 0), -100000);
    }

    private static void promise37() {
        says(37, "LATE behind such a RUN, were, from now on, (what 0) RULE v (0, 1), (1) KEEP v (0 .. 4), (2) BENCHES v (1 .. 3).");
        SparesHouse house = threeSent();
        house.pass(2);
        due("by(6, 0, 2, 1)", house.by(6, 0, 2, 1), 14);
        due("by(6, 0, 2, 2)", house.by(6, 0, 2, 2), 12);
        due("by(6, 0, 2, 3)", house.by(6, 0, 2, 3), 12);
        due("nothing happens", house.count(2) + 10 * house.part(0, 6) + 100 * house.count(5), 421);
        // Base 0 called first and has no want; the piece is off the bench on day 2, at its base on day 3.
        SparesHouse two = told("part 5 0 1;base 1;base 1;cell 0 0 3 0 1;cell 1 0 3 0 0;");
        two.breaks(0, 0);
        two.breaks(1, 0);
        due("by(6, 0, 0, 1)", two.by(6, 0, 0, 1), 3);
        // By rule 0 base 1's own comes on day 4 (base 0's is lent on day 3 and comes on day 5).
        due("by(6, 0, 0, 0)", two.by(6, 0, 0, 0), 4);
        due("count(4)", two.count(4), 0);
        // By KEEP 0 and 1 one of two is lent on day 1 and comes on day 3; by more the want waits for the mended one.
        SparesHouse lend = told("keep 4;part 1 9 1;base 1;base 1;cell 0 0 1 0 0;cell 1 0 1 0 2;");
        lend.breaks(0, 0);
        for (int keep = 0; keep <= 4; keep++) {
            due("by(12, 0, 1, " + keep + ")", lend.by(12, 0, 1, keep), keep <= 1 ? 3 : 9);
        }
        says(37, "NONE: no such ones.");
        int[][] refused = {{6, 2, 0}, {6, 2, 4}, {6, 1, 5}, {6, 1, -1}, {6, 0, 2}, {6, 0, -1}, {6, 3, 1}, {6, -1, 1}, {13, 0, 0},
            {0, 0, 0}, {-1, 1, 1}};
        for (int[] one : refused) {
            due("by(" + one[0] + ", 0, " + one[1] + ", " + one[2] + ")", house.by(one[0], 0, one[1], one[2]), NONE);
        }
        house = nearTheEnd();
        due("by(9, 0, 0, 0)", house.by(9, 0, 0, 0), 0);
        due("by(10, 0, 0, 0)", house.by(10, 0, 0, 0), NONE);
    }

    private static void promise38() {
        says(38, "The KEEP by which that is least, of several the least.");
        // Lent pieces are under way for 18 days: by KEEP 0 base 1 lacks its last one a day sooner.
        SparesHouse house = told("part 1 9 1;base 9;base 9;cell 0 0 1 0 0;cell 1 0 1 12 2;");
        house.breaks(0, 0);
        due("by(3, 4, 1, 0)", house.by(3, 4, 1, 0), 5);
        due("by(3, 4, 1, 1)", house.by(3, 4, 1, 1), 4);
        due("by(3, 4, 1, 4)", house.by(3, 4, 1, 4), 4);
        due("bestKeep(3, 4)", house.bestKeep(3, 4), 1);
        due("bestKeep(1, 4)", house.bestKeep(1, 4), 0);
        due("count(3)", house.count(3), 0);
        due("count(5)", house.count(5), 1);
        house.keep(3);
        due("whatever KEEP is", house.bestKeep(3, 4), 1);
        says(38, "NONE: likewise.");
        for (int days : new int[] {0, -1, 13, DEEP, FAR}) {
            due("bestKeep(" + days + ", 4)", house.bestKeep(days, 4), NONE);
        }
        house = nearTheEnd();
        due("bestKeep(9, 4)", house.bestKeep(9, 4), 0);
        due("bestKeep(10, 4)", house.bestKeep(10, 4), NONE);
    }

    private static void promise39() {
        says(39, "The DAY on which, did DAYS go by and nothing BREAK, nothing were under way any more for the first time "
            + "(DAY now, if nothing is now);");
        SparesHouse house = told(SENDING);
        due("quiet()", house.quiet(), 0);
        house.pass(3);
        due("quiet()", house.quiet(), 3);
        house.breaks(0, 0);
        house.breaks(0, 0);
        house.breaks(0, 0);
        due("quiet()", house.quiet(), 13);
        due("nothing happens", house.played(0), 3);
        house.pass(10);
        due("quiet()", house.quiet(), 13);
        // The mended one comes on day 3, the lent one on day 4; nothing breaks whatever ODDS are.
        house = told(LENDING + "cell 0 0 2 12 0;cell 1 0 2 12 2;cell 2 0 2 12 2;");
        house.breaks(0, 0);
        due("quiet()", house.quiet(), 4);
        // A shipped piece comes on day 2, the broken one is off the bench on day 4.
        house = told("keep 4;part 5 0 2;base 2;base 3;cell 0 0 1 0 0;cell 1 0 1 0 1;works 0 9;");
        house.breaks(0, 0);
        due("quiet()", house.quiet(), 4);
        house = nearTheEnd();
        house.breaks(0, 0);
        due("quiet() up to the last day", house.quiet(), 9999);
        says(39, "-2: not up to 9999.");
        house.pass(1);
        due("quiet()", house.quiet(), 9999);
        house.breaks(0, 0);
        due("quiet() beyond the last day", house.quiet(), -2);
        house.pass(8);
        due("quiet() of the last day", house.quiet(), -2);
    }

    private static void promise40() {
        says(40, "BENCHES, KEEP, RULE, PARTS, BASES, CELLS (by BASES, then PARTS; those of which something is not 0), "
            + "works (by PARTS; those whose STOCK is not 0) as a TEXT, in this order, one blank between WORDS and N, none else, "
            + "no line ends:");
        SparesHouse house = new SparesHouse();
        spells("a new one", house, "benches 1;keep 0;rule 0;");
        String text = "benches 2;keep 3;rule 1;part 30 0 9;part 4 9 1;base 9;base 1;"
            + "cell 0 0 8 12 9;cell 0 1 0 1 0;cell 1 1 0 0 1;works 1 9;";
        house = told("base 9;part 30 0 9;\npart 04 9 1;base 1;works 0 0;works 1 9;rule 1;"
            + "cell 1 1 0 0 1; cell 0 0 8 12 9;cell 0 1 0 1 0;cell 1 0 0 0 0;keep 3;benches 2;");
        spells("a told one", house, text);
        spells("told again", told(spelled(house)), text);
        house = told(text);
        house.buy(1, 0);
        house.supply(0);
        house.odds(0, 0, 0);
        house.set(0, 1, 5);
        house.rule();
        house.keep(0);
        house.benches(3);
        spells("a changed one", house, "benches 3;keep 0;rule 0;part 30 5 9;part 4 9 1;base 9;base 1;"
            + "cell 0 0 8 0 9;cell 0 1 0 1 0;cell 1 0 0 0 1;cell 1 1 0 0 1;works 0 1;works 1 9;");
        StringBuilder all = new StringBuilder("benches 3;keep 4;rule 1;part 30 9 9;part 30 9 9;part 30 9 9;base 9;base 9;base 9;");
        for (int cell = 0; cell < 9; cell++) {
            all.append("cell " + cell / 3 + " " + cell % 3 + " 8 12 9;");
        }
        all.append("works 0 9;works 1 9;works 2 9;");
        spells("the longest", told(all.toString()), all.toString());
        says(40, "i NONE how many bytes, 0 on: the i-th;");
        house = new SparesHouse();
        due("spell(NONE)", house.spell(NONE), 24);
        due("spell(0)", house.spell(0), 'b');
        due("spell(7)", house.spell(7), ' ');
        due("spell(8)", house.spell(8), '1');
        due("spell(23)", house.spell(23), ';');
        says(40, "-2: there are not so many.");
        due("spell(24)", house.spell(24), -2);
        due("spell(far)", house.spell(FAR), -2);
        says(40, "NONE: i below NONE.");
        due("spell(-2)", house.spell(-2), NONE);
        due("spell(deep)", house.spell(DEEP), NONE);
    }

    private static void promise41() {
        says(41, "0 PARTS, 1 BASES, 2 BENCHES, 3 KEEP, 4 RULE, 5 ACTS that can be undone, 6 bytes of the tape, "
            + "7 UNITS of all CELLS, 8 STOCKS of all CELLS, 9 WAYS that began since it began.");
        SparesHouse house = told("benches 3;keep 2;rule 1;part 1 0 1;part 1 0 1;base 1;base 1;base 1;"
            + "cell 0 0 8 0 9;cell 2 1 7 0 5;works 0 9;");
        house.feed(0, 0, 0, 0, 0);
        house.back(3);
        house.breaks(0, 0);
        house.breaks(2, 1);
        row("count", house, new int[] {2, 3, 3, 2, 1, 2, 17, 15, 14, 3}, (h, i) -> h.count(i));
        house.buy(2, 1);
        due("count(8)", house.count(8), 15);
        says(41, "NONE for others.");
        for (int what : new int[] {10, -1, DEEP, FAR}) {
            due("count(" + what + ")", house.count(what), NONE);
        }
    }
}
