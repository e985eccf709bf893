/** Each promise of the document, with answers worked out by hand. */
public final class PromiseTests extends Checks {
    // Sent pieces: one bench, nothing at the works.
    private static final String SENDING = "part 5 0 2;base 2;base 3;cell 0 0 2 0 1;cell 1 0 2 0 0;";
    // Mended pieces, three bases of which two can lend.
    private static final String LENDING = "part 5 3 1;base 2;base 4;base 1;cell 0 0 2 0 0;cell 1 0 2 0 2;cell 2 0 2 0 2;";
    // Out of cell (0, 0) 81, 54, 9 times 12 to the 6th; of cell (0, 1) 72, 72.
    private static final String WEIGHED = "part 2 0 1;part 9 0 1;base 1;cell 0 0 2 3 0;cell 0 1 1 6 0;";

    public static void main(String[] args) {
        told();
        acts();
        asked();
        byOdds();
        were();
        texts();
        end("PromiseTests");
    }

    private static void told() {
        promise1();
        promise2();
        promise3();
        promise4();
        promise4Faults();
        promise4State();
    }

    private static void acts() {
        promise5();
        promise6();
        promise6LastDay();
        promise7();
        promise8();
        promise9();
        promise10();
        promise11();
        promise12();
        promise13();
        promise14();
        promise15();
        promise16();
        promise17();
    }

    private static void asked() {
        promise18();
        promise19();
        promise20();
        promise21();
        promise22();
        promise23();
        promise24();
        promise25();
    }

    private static void byOdds() {
        promise26();
        promise27();
        promise28();
        promise29();
        promise30();
        promise31();
        promise32();
        promise33();
        promise34();
    }

    private static void were() {
        promise35();
        promise36();
        promise37();
        promise38();
        promise39();
    }

    private static void texts() {
        promise40();
        promise41();
    }

    private static void promise1() {
        promise = 1;
        SparesHouse house = new SparesHouse();
        due("NONE", SparesHouse.NONE, -1);
        due("count(0)", house.count(0), 0);
        due("count(1)", house.count(1), 0);
        due("count(2)", house.count(2), 1);
        due("count(3)", house.count(3), 0);
        due("count(4)", house.count(4), 0);
        due("count(5)", house.count(5), 0);
        due("count(6)", house.count(6), 0);
        due("played(0)", house.played(0), 0);
        due("played(9)", house.played(9), 0);
        due("undo()", house.undo(), NONE);
        due("pass(1)", house.pass(1), 1);
    }

    private static void promise2() {
        promise = 2;
        SparesHouse house = new SparesHouse();
        for (int i = 1; i <= 20; i++) {
            due("feed", house.feed(0x20202020, 0x20202020, 0x20202020, 0x20202020, 0x20202020), 20 * i);
        }
        due("feed of a full tape", house.feed(0, 0, 0, 0, 0), NONE);
        due("count(6)", house.count(6), 400);
        due("back(19)", house.back(19), 381);
        due("feed of one too many", house.feed(0, 0, 0, 0, 0), NONE);
        due("count(6)", house.count(6), 381);
        due("back(1)", house.back(1), 380);
        due("feed", house.feed(0x20202020, 0x20202020, 0x20202020, 0x20202020, 0x2020203b), 400);
        due("text()", house.text(), -4 - 399);
        // The bytes come from the highest of the first number on: "keep 3;" and a sign above 127 behind blanks.
        house.feed(0x6b656570, 0x20333b20, 0x20202020, 0x20202020, 0x202020e9);
        due("text()", house.text(), -4 - 19);
    }

    private static void promise3() {
        promise = 3;
        SparesHouse house = new SparesHouse();
        due("back(0)", house.back(0), 0);
        due("back(1)", house.back(1), NONE);
        house.feed(1, 2, 3, 4, 5);
        due("back(-1)", house.back(-1), NONE);
        due("back(deep)", house.back(DEEP), NONE);
        due("back(far)", house.back(FAR), NONE);
        due("back(21)", house.back(21), NONE);
        due("count(6)", house.count(6), 20);
        due("back(7)", house.back(7), 13);
        due("back(0)", house.back(0), 13);
        due("back(13)", house.back(13), 0);
        house.feed(0x6b656570, 0x20333b30, 0x30303030, 0x30303030, 0x30303030);
        due("back(13)", house.back(13), 7);
        due("text()", house.text(), 0);
        due("count(3)", house.count(3), 3);
    }

    private static void promise4() {
        promise = 4;
        read("", 0);
        read(" \n \n", 0);
        read("benches 3;keep 4;rule 1;", 0);
        read("part 30 9 9;part 1 0 1;part 01 00 09;base 9;base 1;base 09;", 9);
        read("part 4 0 2;base 2;", 1);
        read("base 2;part 4 0 2;base 2;cell 1 0 8 12 9;works 0 9;", 2);
        read("\n part \n 4 0\n2 ; base\n2;cell  00 00 08 12 9\n;", 1);
        SparesHouse house = told("benches 3;keep 4;rule 1;benches 2;keep 1;rule 0;part 1 0 1;base 1;"
            + "cell 0 0 8 12 9;cell 0 0 1 2 3;works 0 5;works 0 4;");
        due("count(2)", house.count(2), 2);
        due("count(3)", house.count(3), 1);
        due("count(4)", house.count(4), 0);
        due("cell(0, 0, 0)", house.cell(0, 0, 0), 1);
        due("cell(0, 0, 1)", house.cell(0, 0, 1), 2);
        due("cell(0, 0, 2)", house.cell(0, 0, 2), 3);
        due("part(0, 3)", house.part(0, 3), 4);
    }

    private static void promise4Faults() {
        promise = 4;
        faultAt("Benches 1;", 0);
        faultAt("bench 1;", 0);
        faultAt("benchess 1;", 0);
        faultAt("bench", 0);
        faultAt("keep 1;ru", 7);
        faultAt("benches", 7);
        faultAt("benches ", 8);
        faultAt("benches1;", 7);
        faultAt("benches\t1;", 7);
        faultAt("benches;", 7);
        faultAt("benches ;", 8);
        faultAt("benches keep", 8);
        faultAt("benches 0;", 8);
        faultAt("benches 4;", 8);
        faultAt("benches 003;", 8);
        faultAt("benches 3", 9);
        faultAt("benches 3 ", 10);
        faultAt("benches 3x;", 9);
        faultAt("benches 3 3;", 10);
        faultAt("benches 3;;", 10);
        faultAt("benches 3; 7", 11);
        faultAt("benches -1;", 8);
        faultAt("benches 3;\u00e9", 10);
        faultAt("keep 5;", 5);
        faultAt("rule 2;", 5);
        faultAt("part 0 0 1;", 5);
        faultAt("part 31 0 1;", 5);
        faultAt("part 1 10 1;", 7);
        faultAt("part 1 0 0;", 9);
        faultAt("part 1 0 10;", 9);
        faultAt("part 1 0;", 8);
        faultAt("part 1 0 1 1;", 11);
        faultAt("base 0;", 5);
        faultAt("base 10;", 5);
        faultAt("part 1 0 1;part 1 0 1;part 1 0 1;part 77", 33);
        faultAt("base 1;base 1;base 1;base", 21);
        faultAt("cell 0 0 1 1 1;", 5);
        faultAt("base 1;cell 0 0 1 1 1;", 14);
        faultAt("base 1;part 1 0 1;cell 1 0 1 1 1;", 23);
        faultAt("base 1;part 1 0 1;cell 0 0 9 1 1;", 27);
        faultAt("base 1;part 1 0 1;cell 0 0 8 13 1;", 29);
        faultAt("base 1;part 1 0 1;cell 0 0 8 12 10;", 32);
        faultAt("base 1;part 1 0 1;cell 0 0 8 12 9", 33);
        faultAt("works 0 1;part 1 0 1;", 6);
        faultAt("part 1 0 1;works 1 1;", 17);
        faultAt("part 1 0 1;works 0 10;", 19);
    }

    private static void promise4State() {
        promise = 4;
        SparesHouse house = told(SENDING);
        house.breaks(0, 0);
        house.keep(3);
        house.pass(5);
        due("a fault", tell(house, "part 1 0 1;base;"), -4 - 15);
        due("count(6) behind a fault", house.count(6), 0);
        due("count(5) behind a fault", house.count(5), 3);
        due("count(1) behind a fault", house.count(1), 2);
        due("count(3) behind a fault", house.count(3), 3);
        due("played(0) behind a fault", house.played(0), 5);
        due("played(1) behind a fault", house.played(1), 1);
        due("a text", tell(house, "part 7 1 1;base 4;"), 1);
        due("count(6)", house.count(6), 0);
        due("count(5)", house.count(5), 0);
        due("undo()", house.undo(), NONE);
        due("count(3)", house.count(3), 0);
        due("played(0)", house.played(0), 0);
        due("played(1)", house.played(1), 0);
        due("played(9)", house.played(9), 0);
        due("cell(0, 0, 0)", house.cell(0, 0, 0), 0);
        due("cell(0, 0, 3)", house.cell(0, 0, 3), 0);
        due("an empty text", house.text(), 0);
        due("count(0)", house.count(0), 0);
    }

    private static void promise5() {
        promise = 5;
        SparesHouse house = told(SENDING);
        due("breaks(0, 0)", house.breaks(0, 0), 0);
        due("cell(0, 0, 3)", house.cell(0, 0, 3), 0);
        due("cell(0, 0, 4)", house.cell(0, 0, 4), 0);
        due("breaks(0, 0)", house.breaks(0, 0), 1);
        due("breaks(0, 0)", house.breaks(0, 0), 2);
        due("cell(0, 0, 4)", house.cell(0, 0, 4), 2);
        due("breaks(0, 0)", house.breaks(0, 0), NONE);
        due("count(5)", house.count(5), 3);
        due("breaks(0, 1)", house.breaks(0, 1), NONE);
        due("breaks(2, 0)", house.breaks(2, 0), NONE);
        due("breaks(-1, 0)", house.breaks(-1, 0), NONE);
        due("breaks(0, -1)", house.breaks(0, -1), NONE);
        due("breaks(far, deep)", house.breaks(FAR, DEEP), NONE);
        due("count(5)", house.count(5), 3);
        due("played(1)", house.played(1), 3);
        due("played(8)", house.played(8), 0);
        due("call(0, 2, 0)", house.call(0, 2, 0), 0);
        // With a spare at the works the call is answered at once, behind the broken piece's way.
        house = told(SENDING + "works 0 1;");
        due("breaks(1, 0)", house.breaks(1, 0), 0);
        due("way(0, 0)", house.way(0, 0), 1);
        due("way(1, 0)", house.way(1, 0), 3);
        due("breaks(1, 0)", house.breaks(1, 0), 2);
        house = told(LENDING);
        due("breaks(1, 0)", house.breaks(1, 0), 0);
        due("way(0, 0)", house.way(0, 0), 0);
        due("part(0, 5)", house.part(0, 5), 0);
    }

    private static void promise6() {
        promise = 6;
        SparesHouse house = told(SENDING);
        due("pass(0)", house.pass(0), NONE);
        due("pass(-1)", house.pass(-1), NONE);
        due("pass(31)", house.pass(31), NONE);
        due("pass(far)", house.pass(FAR), NONE);
        due("count(5)", house.count(5), 0);
        house.breaks(0, 0);
        house.breaks(0, 0);
        house.breaks(0, 0);
        due("pass(2)", house.pass(2), 2);
        due("on benches", house.part(0, 7), 1);
        due("waiting", house.part(0, 6), 2);
        due("pass(1)", house.pass(1), 3);
        due("played(8)", house.played(8), 0);
        due("pass(1)", house.pass(1), 4);
        due("played(8)", house.played(8), 1);
        // Off the bench, the answered call's way begins ahead of the next one on the bench.
        due("way(0, 0)", house.way(0, 0), 3);
        due("way(0, 1)", house.way(0, 1), 4);
        due("way(1, 0)", house.way(1, 0), 2);
        due("way(1, 1)", house.way(1, 1), 5);
        due("pass(2)", house.pass(2), 6);
        due("played(4)", house.played(4), 1);
        due("pass(4)", house.pass(4), 10);
        due("played(4)", house.played(4), 2);
        due("played(5)", house.played(5), 14);
        due("cell(0, 0, 3)", house.cell(0, 0, 3), 1);
        due("pass(30)", house.pass(30), 40);
        due("played(9)", house.played(9), 0);
        lends();
    }

    private static void lends() {
        SparesHouse house = told(LENDING);
        house.breaks(0, 0);
        due("played(7)", house.played(7), 0);
        house.pass(1);
        // Of bases 1 and 2 the one of least SHIP lends: 1 + 2 days.
        due("played(7)", house.played(7), 1);
        due("cell(2, 0, 3)", house.cell(2, 0, 3), 1);
        due("cell(1, 0, 3)", house.cell(1, 0, 3), 2);
        due("way(1, 0)", house.way(1, 0), 4);
        due("way(1, 3)", house.way(1, 3), 0);
        due("way(1, 4)", house.way(1, 4), 4);
        house.pass(1);
        due("not lent for twice", house.played(7), 1);
        house.pass(1);
        due("filled by the mended one", house.played(4), 1);
        house.pass(1);
        due("the lent one comes to hand", house.cell(0, 0, 3), 1);
        house = told(LENDING.replace("base 4;base 1;", "base 1;base 1;"));
        house.breaks(0, 0);
        house.pass(1);
        due("the first of like ships lends", house.cell(1, 0, 8), -1);
        house = told("keep 1;" + LENDING);
        house.breaks(0, 0);
        house.breaks(0, 0);
        house.pass(1);
        due("two wants, each by a base above KEEP", house.played(7), 2);
        due("cell(2, 0, 8)", house.cell(2, 0, 8), -1);
        due("cell(1, 0, 8)", house.cell(1, 0, 8), -1);
        due("cell(0, 0, 8)", house.cell(0, 0, 8), 2);
        house = told("keep 2;" + LENDING);
        house.breaks(0, 0);
        house.pass(1);
        due("none above KEEP", house.played(7), 0);
    }

    private static SparesHouse nearTheEnd() {
        SparesHouse house = told("part 1 9 1;base 1;cell 0 0 8 0 0;");
        for (int i = 0; i < 333; i++) {
            house.pass(30);
        }
        due("played(0)", house.played(0), 9990);
        return house;
    }

    private static void promise6LastDay() {
        promise = 6;
        SparesHouse house = nearTheEnd();
        due("pass(10)", house.pass(10), NONE);
        due("pass(8)", house.pass(8), 9998);
        due("pass(2)", house.pass(2), NONE);
        due("pass(1)", house.pass(1), 9999);
        due("pass(1)", house.pass(1), NONE);
        promise = 7;
        due("run(1, 1)", house.run(1, 1), NONE);
        promise = 35;
        due("would(1, 1, 0)", house.would(1, 1, 0), NONE);
        promise = 36;
        due("spared(1, 1, 0, 0)", house.spared(1, 1, 0, 0), -100000);
        promise = 37;
        due("by(1, 1, 0, 0)", house.by(1, 1, 0, 0), NONE);
        promise = 38;
        due("bestKeep(1, 1)", house.bestKeep(1, 1), NONE);
        promise = 39;
        due("quiet()", house.quiet(), 9999);
        house.breaks(0, 0);
        due("quiet()", house.quiet(), -2);
        promise = 16;
        due("begin()", house.begin(), 9999);
    }

    private static void promise7() {
        promise = 7;
        String text = "part 1 9 1;part 1 9 1;base 1;base 1;"
            + "cell 0 0 8 4 9;cell 0 1 8 5 9;cell 1 0 8 4 9;cell 1 1 8 12 9;";
        SparesHouse house = told(text);
        // Draws by seed 7: 1 3 4 5, 8 4 0 0, 6 5 0 10.
        due("run(3, 7)", house.run(3, 7), 8);
        due("played(0)", house.played(0), 3);
        due("cell(0, 0, 7)", house.cell(0, 0, 7), 1);
        due("cell(0, 1, 7)", house.cell(0, 1, 7), 2);
        due("cell(1, 0, 7)", house.cell(1, 0, 7), 2);
        due("cell(1, 1, 7)", house.cell(1, 1, 7), 3);
        due("run(0, 7)", house.run(0, 7), NONE);
        due("run(31, 7)", house.run(31, 7), NONE);
        due("run(deep, 7)", house.run(DEEP, 7), NONE);
        due("count(5)", house.count(5), 1);
        // Seed -1 draws 1 0 3 9 first: a draw below 4, 5, 4, 12.
        house = told(text);
        due("run(1, -1)", house.run(1, -1), 4);
        // A cell without units has its draw, too: by seed 7 the third one.
        house = told(text.replace("cell 1 0 8 4 9;", "cell 1 0 0 12 9;").replace("cell 1 1 8 12 9;", "cell 1 1 8 5 9;"));
        due("run(1, 7)", house.run(1, 7), 2);
        house = new SparesHouse();
        due("run(30, 5)", house.run(30, 5), 0);
        due("played(0)", house.played(0), 30);
        // Each day: one piece breaks ahead of the day that goes by.
        house = told("part 1 9 1;base 1;cell 0 0 2 12 0;");
        due("run(4, 3)", house.run(4, 3), 2);
        due("played(5)", house.played(5), 7);
    }

    private static void promise8() {
        promise = 8;
        SparesHouse house = told(SENDING);
        due("buy(1, 0)", house.buy(1, 0), 1);
        due("cell(1, 0, 3)", house.cell(1, 0, 3), 1);
        due("buy(0, 1)", house.buy(0, 1), NONE);
        due("buy(2, 0)", house.buy(2, 0), NONE);
        due("buy(-1, -1)", house.buy(-1, -1), NONE);
        house.breaks(0, 0);
        house.breaks(0, 0);
        house.pass(1);
        // Base 1's spare is lent on day 1; a bought one fills the want.
        due("buy(0, 0)", house.buy(0, 0), 2);
        due("cell(0, 0, 3)", house.cell(0, 0, 3), 0);
        due("cell(0, 0, 4)", house.cell(0, 0, 4), 0);
        due("played(4)", house.played(4), 1);
        due("played(5)", house.played(5), 1);
        for (int i = 3; i <= 9; i++) {
            due("buy(0, 0)", house.buy(0, 0), i);
        }
        int acts = house.count(5);
        due("buy(0, 0)", house.buy(0, 0), NONE);
        due("count(5)", house.count(5), acts);
        due("cell(0, 0, 3)", house.cell(0, 0, 3), 7);
    }

    private static void promise9() {
        promise = 9;
        SparesHouse house = told("part 5 0 2;base 2;cell 0 0 2 0 2;");
        due("sell(0, 0)", house.sell(0, 0), 1);
        due("cell(0, 0, 3)", house.cell(0, 0, 3), 1);
        house.breaks(0, 0);
        due("sell without a hand", house.sell(0, 0), NONE);
        due("cell(0, 0, 2)", house.cell(0, 0, 2), 1);
        house.undo();
        due("sell(0, 0)", house.sell(0, 0), 0);
        due("sell without a stock", house.sell(0, 0), NONE);
        due("sell(1, 0)", house.sell(1, 0), NONE);
        due("sell(0, 1)", house.sell(0, 1), NONE);
        due("sell(far, far)", house.sell(FAR, FAR), NONE);
        due("count(5)", house.count(5), 2);
        // A lent piece that comes late is in hand though there is no stock.
        house = told(LENDING);
        house.breaks(0, 0);
        house.pass(4);
        due("cell(0, 0, 3)", house.cell(0, 0, 3), 1);
        due("cell(0, 0, 2)", house.cell(0, 0, 2), 0);
        due("sell(0, 0)", house.sell(0, 0), NONE);
        due("it stays in hand", house.cell(0, 0, 3), 1);
        due("cell(0, 0, 2)", house.cell(0, 0, 2), 0);
    }

    private static void promise10() {
        promise = 10;
        SparesHouse house = told(SENDING);
        due("supply(0)", house.supply(0), 1);
        due("part(0, 4)", house.part(0, 4), 1);
        due("supply(1)", house.supply(1), NONE);
        due("supply(-1)", house.supply(-1), NONE);
        due("supply(far)", house.supply(FAR), NONE);
        house.breaks(0, 0);
        house.breaks(1, 0);
        due("part(0, 5)", house.part(0, 5), 1);
        due("supply(0)", house.supply(0), 2);
        due("part(0, 5)", house.part(0, 5), 0);
        due("part(0, 4)", house.part(0, 4), 0);
        due("cell(1, 0, 6)", house.cell(1, 0, 6), 1);
        for (int i = 3; i <= 9; i++) {
            due("supply(0)", house.supply(0), i);
        }
        due("supply(0)", house.supply(0), NONE);
        due("part(0, 4)", house.part(0, 4), 7);
        due("part(0, 3)", house.part(0, 3), 9);
    }

    private static void promise11() {
        promise = 11;
        SparesHouse house = told("part 5 0 2;base 2;cell 0 0 8 6 0;");
        due("set(0, 0, 5)", house.set(0, 0, 5), NONE);
        due("set(0, 0, 0)", house.set(0, 0, 0), NONE);
        due("set(0, 0, 31)", house.set(0, 0, 31), NONE);
        due("set(0, 1, -1)", house.set(0, 1, -1), NONE);
        due("set(0, 1, 10)", house.set(0, 1, 10), NONE);
        due("set(0, 2, 0)", house.set(0, 2, 0), NONE);
        due("set(0, 2, 10)", house.set(0, 2, 10), NONE);
        due("set(0, 3, 1)", house.set(0, 3, 1), NONE);
        due("set(0, -1, 1)", house.set(0, -1, 1), NONE);
        due("set(1, 0, 1)", house.set(1, 0, 1), NONE);
        due("set(-1, 0, 1)", house.set(-1, 0, 1), NONE);
        due("count(5)", house.count(5), 0);
        house.breaks(0, 0);
        due("set(0, 0, 30)", house.set(0, 0, 30), 5);
        due("set(0, 1, 9)", house.set(0, 1, 9), 0);
        due("set(0, 2, 9)", house.set(0, 2, 9), 2);
        due("part(0, 0)", house.part(0, 0), 30);
        due("part(0, 1)", house.part(0, 1), 9);
        due("part(0, 2)", house.part(0, 2), 9);
        due("what is under way stays", house.way(0, 4), 2);
        house.breaks(0, 0);
        due("mended now", house.way(1, 0), 0);
        due("mended now", house.way(1, 4), 9);
        house.pass(2);
        due("on the bench", house.way(1, 4), 11);
        due("buys(0, 3) by the new price", house.buys(0, 3), 30);
        due("set(0, 0, 1)", house.set(0, 0, 1), 30);
        due("buys(0, 3) by the new price", house.buys(0, 3), 1);
        house.undo();
        due("buys(0, 3) by the old price", house.buys(0, 3), 30);
        due("part(0, 0)", house.part(0, 0), 30);
        house.set(0, 1, 1);
        house.breaks(0, 0);
        due("mended in a day", house.way(0, 4), 3);
        due("mended in a day", house.way(0, 0), 0);
    }

    private static void promise12() {
        promise = 12;
        SparesHouse house = told("part 5 0 2;base 2;cell 0 0 1 6 0;");
        due("odds(0, 0, 6)", house.odds(0, 0, 6), NONE);
        due("odds(0, 0, -1)", house.odds(0, 0, -1), NONE);
        due("odds(0, 0, 13)", house.odds(0, 0, 13), NONE);
        due("odds(0, 1, 1)", house.odds(0, 1, 1), NONE);
        due("odds(1, 0, 1)", house.odds(1, 0, 1), NONE);
        due("count(5)", house.count(5), 0);
        due("lacks()", house.lacks(), TO_8 / 2);
        due("odds(0, 0, 12)", house.odds(0, 0, 12), 6);
        due("lacks()", house.lacks(), TO_8);
        due("cell(0, 0, 1)", house.cell(0, 0, 1), 12);
        due("run(1, 9)", house.run(1, 9), 1);
        due("odds(0, 0, 0)", house.odds(0, 0, 0), 12);
        due("lacks()", house.lacks(), 0);
        due("count(5)", house.count(5), 3);
        house.undo();
        due("lacks() undone", house.lacks(), TO_8);
    }

    private static void promise13() {
        promise = 13;
        SparesHouse house = told("benches 2;part 5 0 9;base 1;cell 0 0 8 0 9;");
        due("benches(2)", house.benches(2), NONE);
        due("benches(0)", house.benches(0), NONE);
        due("benches(4)", house.benches(4), NONE);
        for (int i = 0; i < 5; i++) {
            house.breaks(0, 0);
        }
        house.pass(1);
        due("part(0, 7)", house.part(0, 7), 2);
        due("benches(3)", house.benches(3), 2);
        due("part(0, 7)", house.part(0, 7), 3);
        due("part(0, 6)", house.part(0, 6), 2);
        due("benches(1)", house.benches(1), 3);
        due("what is on a bench stays", house.part(0, 7), 3);
        due("played(0)", house.pass(9), 10);
        due("one bench now", house.part(0, 7), 1);
        due("part(0, 6)", house.part(0, 6), 1);
        due("count(2)", house.count(2), 1);
    }

    private static void promise14() {
        promise = 14;
        SparesHouse house = told("keep 2;" + LENDING);
        due("keep(2)", house.keep(2), NONE);
        due("keep(-1)", house.keep(-1), NONE);
        due("keep(5)", house.keep(5), NONE);
        house.breaks(0, 0);
        house.pass(1);
        due("played(7)", house.played(7), 0);
        due("keep(1)", house.keep(1), 2);
        due("lent as a day goes by", house.played(7), 0);
        house.pass(1);
        due("played(7)", house.played(7), 1);
        due("keep(4)", house.keep(4), 1);
        due("keep(0)", house.keep(0), 4);
        due("count(3)", house.count(3), 0);
    }

    private static void promise15() {
        promise = 15;
        for (int rule = 0; rule <= 1; rule++) {
            SparesHouse house = told("part 5 0 2;base 2;base 2;cell 0 0 3 6 1;cell 1 0 3 6 0;");
            house.breaks(0, 0);
            house.breaks(1, 0);
            if (rule == 1) {
                due("rule()", house.rule(), 0);
                due("count(4)", house.count(4), 1);
            }
            // Base 0 called first, base 1 has a want.
            house.supply(0);
            due("shipped to", house.cell(rule, 0, 6), 1);
            due("the call that is left", house.call(0, 0, 0), 1 - rule);
        }
        SparesHouse house = told("rule 1;part 5 0 2;base 2;base 2;base 2;cell 0 0 3 0 0;cell 1 0 3 0 0;cell 2 0 3 0 0;");
        house.breaks(0, 0);
        house.breaks(2, 0);
        house.breaks(1, 0);
        house.breaks(1, 0);
        house.breaks(2, 0);
        house.supply(0);
        due("of bases with most wants the oldest call", house.cell(2, 0, 6), 1);
        house.supply(0);
        house.supply(0);
        due("then base 1, which called ahead of base 2's second call", house.cell(1, 0, 6), 2);
        due("cell(2, 0, 6)", house.cell(2, 0, 6), 1);
        due("rule()", house.rule(), 1);
        due("count(4)", house.count(4), 0);
        house.supply(0);
        due("the oldest of all", house.cell(0, 0, 6), 1);
    }

    private static void promise16() {
        promise = 16;
        SparesHouse house = told(SENDING + "works 0 2;");
        house.breaks(0, 0);
        house.breaks(0, 0);
        house.breaks(1, 0);
        house.buy(1, 0);
        house.supply(0);
        house.pass(7);
        due("begin()", house.begin(), 7);
        due("played(0)", house.played(0), 0);
        for (int what = 0; what <= 10; what++) {
            due("played(" + what + ")", house.played(what), 0);
        }
        due("count(9)", house.count(9), 0);
        due("cell(0, 0, 3)", house.cell(0, 0, 3), 1);
        due("cell(1, 0, 3)", house.cell(1, 0, 3), 1);
        due("cell(1, 0, 4)", house.cell(1, 0, 4), 0);
        due("part(0, 4)", house.part(0, 4), 3);
        due("begin()", house.begin(), 0);
        due("count(5)", house.count(5), 8);
        due("breaks(0, 0)", house.breaks(0, 0), 0);
    }

    private static void promise17() {
        promise = 17;
        SparesHouse house = told(SENDING);
        due("undo()", house.undo(), NONE);
        for (int i = 1; i <= 15; i++) {
            house.pass(i);
            due("count(5)", house.count(5), Math.min(i, 12));
        }
        // 120 days: the passes of 15 down to 4 days can be taken back, 1 + 2 + 3 can't.
        for (int i = 11; i >= 0; i--) {
            due("undo()", house.undo(), i);
        }
        due("undo()", house.undo(), NONE);
        due("played(0)", house.played(0), 6);
        house.breaks(0, 0);
        house.breaks(0, 0);
        house.benches(3);
        house.rule();
        house.supply(0);
        house.begin();
        due("undo()", house.undo(), 5);
        due("played(0)", house.played(0), 6);
        due("played(1)", house.played(1), 2);
        due("played(8)", house.played(8), 1);
        due("undo()", house.undo(), 4);
        due("played(8)", house.played(8), 0);
        due("part(0, 5)", house.part(0, 5), 2);
        due("count(4)", house.count(4), 1);
        due("undo()", house.undo(), 3);
        due("count(4)", house.count(4), 0);
        due("undo()", house.undo(), 2);
        due("count(2)", house.count(2), 1);
        house.feed(0, 0, 0, 0, 0);
        due("undo()", house.undo(), 1);
        due("the tape stays", house.count(6), 20);
        due("want(0, 0)", house.want(0, 0), NONE);
        due("cell(0, 0, 3)", house.cell(0, 0, 3), 0);
        due("breaks(0, 0)", house.breaks(0, 0), 1);
    }

    private static void promise18() {
        promise = 18;
        SparesHouse house = told("part 1 0 1;part 5 0 9;base 2;base 3;cell 0 1 4 0 0;cell 1 1 4 0 0;cell 0 0 1 0 0;works 1 3;");
        for (int i = 0; i < 4; i++) {
            house.breaks(0, 1);
        }
        house.breaks(1, 1);
        house.breaks(0, 0);
        house.pass(2);
        // Base 0's four are at the works, one of them on the bench; base 1's is sent; three calls were answered.
        int[] want = {5, 0, 9, 3, 0, 2, 3, 1, 1};
        for (int what = 0; what <= 8; what++) {
            due("part(1, " + what + ")", house.part(1, what), want[what]);
        }
        int[] other = {1, 0, 1, 0, 0, 1, 1, 0, 0};
        for (int what = 0; what <= 8; what++) {
            due("part(0, " + what + ")", house.part(0, what), other[what]);
        }
        due("part(1, 9)", house.part(1, 9), NONE);
        due("part(1, -1)", house.part(1, -1), NONE);
        due("part(2, 0)", house.part(2, 0), NONE);
        due("part(-1, 0)", house.part(-1, 0), NONE);
        due("part(far, deep)", house.part(FAR, DEEP), NONE);
    }

    private static void promise19() {
        promise = 19;
        SparesHouse house = told("part 1 0 1;part 5 0 9;base 2;base 3;cell 0 0 2 0 2;cell 0 1 3 0 1;cell 1 1 4 0 0;works 1 1;");
        house.breaks(1, 1);
        house.breaks(1, 1);
        house.breaks(0, 1);
        house.breaks(0, 1);
        house.breaks(0, 0);
        int[] first = {2, 1, 3, 0, 1};
        int[] second = {3, 2, 1, 1, 0};
        for (int what = 0; what <= 4; what++) {
            due("base(0, " + what + ")", house.base(0, what), first[what]);
            due("base(1, " + what + ")", house.base(1, what), second[what]);
        }
        due("base(0, 5)", house.base(0, 5), NONE);
        due("base(0, -1)", house.base(0, -1), NONE);
        due("base(2, 0)", house.base(2, 0), NONE);
        due("base(-1, 0)", house.base(-1, 0), NONE);
        house = told(LENDING);
        house.breaks(0, 0);
        house.pass(1);
        due("a lent one is under way", house.base(0, 3), 1);
        due("base(2, 4)", house.base(2, 4), 1);
    }

    private static void promise20() {
        promise = 20;
        SparesHouse house = told("part 1 3 1;part 5 0 9;base 2;base 3;cell 0 0 2 5 1;cell 0 1 3 4 1;cell 1 1 4 0 2;works 1 1;");
        house.breaks(0, 0);
        house.breaks(0, 0);
        house.breaks(0, 1);
        house.breaks(0, 1);
        house.breaks(0, 1);
        house.pass(1);
        int[] mended = {2, 5, 1, 0, 1, 0, 0, 2, 0};
        int[] sent = {3, 4, 1, 0, 2, 2, 3, 0, 2};
        int[] lender = {4, 0, 2, 0, 0, 0, 0, 0, -2};
        for (int what = 0; what <= 8; what++) {
            due("cell(0, 0, " + what + ")", house.cell(0, 0, what), mended[what]);
            due("cell(0, 1, " + what + ")", house.cell(0, 1, what), sent[what]);
            due("cell(1, 1, " + what + ")", house.cell(1, 1, what), lender[what]);
        }
        due("cell(0, 0, 9)", house.cell(0, 0, 9), NONE);
        due("cell(0, 0, -1)", house.cell(0, 0, -1), NONE);
        due("cell(2, 0, 0)", house.cell(2, 0, 0), NONE);
        due("cell(0, 2, 7)", house.cell(0, 2, 7), NONE);
        due("cell(2, 0, 8)", house.cell(2, 0, 8), -1000);
        due("cell(0, -1, 8)", house.cell(0, -1, 8), -1000);
        due("cell(2, 0, 9)", house.cell(2, 0, 9), NONE);
    }

    private static void promise21() {
        promise = 21;
        SparesHouse house = told("part 1 9 1;part 1 2 1;base 2;base 3;cell 0 0 1 0 0;cell 0 1 1 0 0;cell 1 0 1 0 0;cell 1 1 1 0 1;");
        house.breaks(1, 0);
        house.pass(1);
        house.breaks(0, 1);
        house.breaks(0, 0);
        house.pass(1);
        int[][] wants = {{1, 0, 0, 0}, {0, 1, 1, 1}, {0, 0, 1, 0}};
        for (int k = 0; k < 3; k++) {
            for (int what = 0; what <= 3; what++) {
                due("want(" + k + ", " + what + ")", house.want(k, what), wants[k][what]);
            }
        }
        due("want(3, 0)", house.want(3, 0), NONE);
        due("want(-1, 0)", house.want(-1, 0), NONE);
        due("want(0, 4)", house.want(0, 4), NONE);
        due("want(0, -1)", house.want(0, -1), NONE);
        house.pass(1);
        due("want(1, 1)", house.want(1, 1), 0);
        due("want(2, 0)", house.want(2, 0), NONE);
    }

    private static void promise22() {
        promise = 22;
        SparesHouse house = told("part 1 0 1;part 1 0 1;base 9;base 9;cell 0 0 2 0 2;cell 0 1 1 0 2;cell 1 0 1 0 2;");
        house.breaks(1, 0);
        house.pass(2);
        house.breaks(0, 1);
        house.breaks(0, 0);
        house.breaks(0, 0);
        due("call(0, 0, 0)", house.call(0, 0, 0), 1);
        due("call(0, 0, 1)", house.call(0, 0, 1), 0);
        due("call(0, 1, 0)", house.call(0, 1, 0), 0);
        due("call(0, 2, 1)", house.call(0, 2, 1), 2);
        due("call(0, 3, 0)", house.call(0, 3, 0), NONE);
        due("call(1, 0, 0)", house.call(1, 0, 0), 0);
        due("call(1, 1, 0)", house.call(1, 1, 0), NONE);
        due("call(0, 0, 2)", house.call(0, 0, 2), NONE);
        due("call(0, 0, -1)", house.call(0, 0, -1), NONE);
        due("call(0, -1, 0)", house.call(0, -1, 0), NONE);
        due("call(2, 0, 0)", house.call(2, 0, 0), NONE);
        due("call(-1, 0, 0)", house.call(-1, 0, 0), NONE);
        house.supply(0);
        due("the answered one is gone", house.call(0, 0, 1), 2);
    }

    private static void promise23() {
        promise = 23;
        SparesHouse house = told("part 1 9 1;part 1 0 4;base 2;base 3;cell 0 0 2 0 2;cell 0 1 2 0 2;cell 1 1 2 0 0;works 1 1;");
        house.breaks(0, 0);
        house.breaks(1, 1);
        house.breaks(0, 1);
        int[][] ways = {{1, 3, 1, 0, 2}, {1, 1, 1, 1, 3}, {3, 2, 1, 1, 3}, {0, 0, 0, 0, 9}};
        ways(house, ways);
        house.pass(2);
        // Base 0's spare was lent on day 1, 2 + 3 days; the sent one is on the bench from day 2 on.
        ways(house, new int[][] {{1, 1, 1, 1, 3}, {3, 2, 1, 1, 3}, {4, 4, 1, 1, 6}, {2, 5, 1, -2, 6}, {0, 0, 0, 0, 9}});
        due("way(5, 0)", house.way(5, 0), NONE);
        due("way(-1, 0)", house.way(-1, 0), NONE);
        due("way(0, 5)", house.way(0, 5), NONE);
        due("way(0, -1)", house.way(0, -1), NONE);
        due("way(far, far)", house.way(FAR, FAR), NONE);
    }

    private static void ways(SparesHouse house, int[][] ways) {
        due("played(9)", house.played(9), ways.length);
        for (int k = 0; k < ways.length; k++) {
            for (int what = 0; what <= 4; what++) {
                due("way(" + k + ", " + what + ")", house.way(k, what), ways[k][what]);
            }
        }
    }

    private static void promise24() {
        promise = 24;
        SparesHouse house = told("part 1 0 9;part 1 0 9;base 1;base 2;cell 0 0 2 0 2;cell 0 1 2 0 2;cell 1 0 2 0 2;");
        due("waits(0)", house.waits(0), NONE);
        house.breaks(1, 0);
        house.breaks(0, 1);
        house.breaks(0, 0);
        house.breaks(0, 1);
        house.pass(2);
        // Of base 0's three the first is on the bench; base 1's came a day later.
        due("waits(0)", house.waits(0), 0);
        due("waits(1)", house.waits(1), 1);
        due("waits(2)", house.waits(2), 0);
        due("waits(3)", house.waits(3), NONE);
        due("waits(-1)", house.waits(-1), NONE);
        house.pass(8);
        due("waits(0)", house.waits(0), 1);
    }

    private static void promise25() {
        promise = 25;
        SparesHouse house = told(SENDING);
        house.breaks(0, 0);
        house.breaks(0, 0);
        house.breaks(0, 0);
        house.pass(7);
        // Day 6 filled one want of day 0; on the bench the third piece, the second one is shipped.
        int[] want = {7, 3, 1, 1, 1, 13, 7, 0, 2, 2, 0};
        for (int what = 0; what <= 10; what++) {
            due("played(" + what + ")", house.played(what), want[what]);
        }
        due("played(11)", house.played(11), NONE);
        due("played(-1)", house.played(-1), NONE);
        house.pass(3);
        due("played(6)", house.played(6), 8);
        house = told(LENDING);
        house.breaks(0, 0);
        house.pass(3);
        due("played(6)", house.played(6), 3);
        due("played(7)", house.played(7), 1);
        house.breaks(0, 0);
        house.pass(1);
        due("the longest wait stays", house.played(6), 3);
        due("played(4)", house.played(4), 2);
        due("played(5)", house.played(5), 4);
    }

    private static void promise26() {
        promise = 26;
        SparesHouse house = told(WEIGHED + "base 2;cell 1 0 8 12 0;cell 1 1 8 1 0;");
        due("out(0, 0, 0)", house.out(0, 0, 0), 81 * TO_6);
        due("out(0, 0, 1)", house.out(0, 0, 1), 54 * TO_6);
        due("out(0, 0, 2)", house.out(0, 0, 2), 9 * TO_6);
        due("out(0, 0, 3)", house.out(0, 0, 3), 0);
        due("out(0, 0, 8)", house.out(0, 0, 8), 0);
        due("out(1, 0, 8)", house.out(1, 0, 8), TO_8);
        due("out(1, 0, 7)", house.out(1, 0, 7), 0);
        due("out(1, 1, 8)", house.out(1, 1, 8), 1);
        due("out(1, 1, 7)", house.out(1, 1, 7), 88);
        due("out(1, 1, 0)", house.out(1, 1, 0), 214358881);
        due("out(0, 0, 9)", house.out(0, 0, 9), NONE);
        due("out(0, 0, -1)", house.out(0, 0, -1), NONE);
        due("out(2, 0, 0)", house.out(2, 0, 0), NONE);
        due("out(0, 2, 0)", house.out(0, 2, 0), NONE);
        house = told("part 1 0 1;base 1;");
        due("a cell without units", house.out(0, 0, 0), TO_8);
    }

    private static void promise27() {
        promise = 27;
        SparesHouse house = told(WEIGHED + "base 2;cell 1 0 8 12 0;");
        due("lack(0, 0, 0)", house.lack(0, 0, 0), 72 * TO_6);
        due("lack(0, 0, 1)", house.lack(0, 0, 1), 9 * TO_6);
        due("lack(0, 0, 2)", house.lack(0, 0, 2), 0);
        due("lack(0, 1, 0)", house.lack(0, 1, 0), 72 * TO_6);
        due("lack(1, 0, 0)", house.lack(1, 0, 0), 8 * TO_8);
        due("lack(1, 0, 7)", house.lack(1, 0, 7), TO_8);
        due("lack(1, 0, 8)", house.lack(1, 0, 8), 0);
        due("lack(1, 0, 9)", house.lack(1, 0, 9), 0);
        due("lack(1, 0, 10)", house.lack(1, 0, 10), NONE);
        due("lack(1, 0, -1)", house.lack(1, 0, -1), NONE);
        due("lack(2, 0, 0)", house.lack(2, 0, 0), NONE);
        due("lack(0, -1, 0)", house.lack(0, -1, 0), NONE);
    }

    private static void promise28() {
        promise = 28;
        SparesHouse house = told(WEIGHED + "works 0 9;");
        due("lacks()", house.lacks(), 144 * TO_6);
        house.buy(0, 0);
        due("lacks()", house.lacks(), 81 * TO_6);
        house.buy(0, 1);
        due("lacks()", house.lacks(), 9 * TO_6);
        house.undo();
        due("lacks()", house.lacks(), 81 * TO_6);
        due("by the stock, not the hand", house.breaks(0, 0), 0);
        due("lacks()", house.lacks(), 81 * TO_6);
        tell(house, "part 1 0 1;base 1;");
        due("lacks() of another text", house.lacks(), 0);
    }

    private static void promise29() {
        promise = 29;
        SparesHouse house = told(WEIGHED + "base 2;cell 1 0 8 12 0;");
        // 56.25, 93.75, 100 of a hundred.
        int[][] sure = {{0, 0}, {56, 0}, {57, 1}, {93, 1}, {94, 2}, {100, 2}};
        for (int[] one : sure) {
            due("sure(0, 0, " + one[0] + ")", house.sure(0, 0, one[0]), one[1]);
        }
        due("just as many", house.sure(0, 1, 50), 0);
        due("sure(0, 1, 51)", house.sure(0, 1, 51), 1);
        due("sure(1, 0, 1)", house.sure(1, 0, 1), 8);
        due("sure(1, 1, 100)", house.sure(1, 1, 100), 0);
        due("sure(0, 0, 101)", house.sure(0, 0, 101), NONE);
        due("sure(0, 0, -1)", house.sure(0, 0, -1), NONE);
        due("sure(2, 0, 50)", house.sure(2, 0, 50), NONE);
        due("sure(0, 2, 50)", house.sure(0, 2, 50), NONE);
    }

    private static void promise30() {
        promise = 30;
        SparesHouse house = told(WEIGHED);
        // Gains for a coin, by 12 to the 6th: 63 / 2, 72 / 9, 9 / 2.
        buysAre(house, new int[][] {{0, 0, 1, 2}, {0, 1, 1, 11}, {0, 0, 2, 13}});
        due("buys(3, 0)", house.buys(3, 0), NONE);
        due("buys(-1, 0)", house.buys(-1, 0), NONE);
        due("buys(0, 4)", house.buys(0, 4), NONE);
        due("buys(0, -1)", house.buys(0, -1), NONE);
        due("buys(far, 0)", house.buys(FAR, 0), NONE);
        // Stocks don't matter; of like ones the first.
        house = told("part 2 0 1;part 4 0 1;base 1;base 1;cell 0 0 1 3 9;cell 0 1 1 6 0;cell 1 0 2 12 0;cell 1 1 1 6 2;");
        buysAre(house, new int[][] {{1, 0, 1, 2}, {1, 0, 2, 4}, {0, 0, 1, 6}, {0, 1, 1, 10}, {1, 1, 1, 14}});
        due("buys(5, 0)", house.buys(5, 0), NONE);
        house = told("part 1 0 1;base 1;cell 0 0 8 12 0;");
        due("buys(7, 2)", house.buys(7, 2), 8);
        due("buys(8, 2)", house.buys(8, 2), NONE);
        due("no parts", new SparesHouse().buys(0, 0), NONE);
    }

    private static void buysAre(SparesHouse house, int[][] buys) {
        for (int k = 0; k < buys.length; k++) {
            for (int what = 0; what <= 3; what++) {
                due("buys(" + k + ", " + what + ")", house.buys(k, what), buys[k][what]);
            }
        }
    }

    private static void promise31() {
        promise = 31;
        SparesHouse house = told(WEIGHED);
        int[][] bought = {{0, 0, 0}, {1, 0, 0}, {2, 1, 2}, {10, 1, 2}, {11, 2, 11}, {12, 2, 11}, {13, 3, 13}, {99, 3, 13}};
        for (int[] one : bought) {
            due("bought(" + one[0] + ", 0)", house.bought(one[0], 0), one[1]);
            due("bought(" + one[0] + ", 1)", house.bought(one[0], 1), one[2]);
        }
        due("bought(99, 2)", house.bought(99, 2), 3);
        due("bought(99, 3)", house.bought(99, 3), 0);
        due("bought(99, 5)", house.bought(99, 5), NONE);
        due("bought(99, -1)", house.bought(99, -1), NONE);
        due("bought(100, 0)", house.bought(100, 0), NONE);
        due("bought(-1, 0)", house.bought(-1, 0), NONE);
        house = told("part 2 0 1;base 1;base 1;base 1;cell 0 0 1 3 0;cell 1 0 2 12 0;cell 2 0 1 6 0;");
        due("bought(6, 2)", house.bought(6, 2), 0);
        due("bought(6, 3)", house.bought(6, 3), 2);
        due("bought(6, 4)", house.bought(6, 4), 1);
        due("bought(8, 2)", house.bought(8, 2), 1);
    }

    private static void promise32() {
        promise = 32;
        SparesHouse house = told(WEIGHED);
        int[][] lacks = {{0, 144, 144}, {1, 144, 144}, {2, 81, 81}, {4, 81, 72}, {10, 81, 72}, {11, 9, 9}, {13, 0, 0}, {99, 0, 0}};
        for (int[] one : lacks) {
            due("lacksBy(" + one[0] + ", false)", house.lacksBy(one[0], false), one[1] * TO_6);
            due("lacksBy(" + one[0] + ", true)", house.lacksBy(one[0], true), one[2] * TO_6);
        }
        due("lacksBy(-1, false)", house.lacksBy(-1, false), NONE);
        due("lacksBy(100, true)", house.lacksBy(100, true), NONE);
        // A text of fewer cells than the one ahead of it.
        tell(house, "part 2 0 1;base 1;cell 0 0 1 6 0;");
        due("lacksBy(0, true)", house.lacksBy(0, true), 72 * TO_6);
        due("lacksBy(2, true)", house.lacksBy(2, true), 0);
        due("lacksBy(0, false)", house.lacksBy(0, false), 72 * TO_6);
        house.odds(0, 0, 12);
        due("by other odds", house.lacksBy(0, true), 144 * TO_6);
        house.undo();
        due("undone", house.lacksBy(0, true), 72 * TO_6);
    }

    private static void promise33() {
        promise = 33;
        SparesHouse house = told(WEIGHED);
        int[][] best = {{0, 0, 0}, {1, 0, 0}, {2, 1, 0}, {3, 1, 0}, {4, 2, 0}, {9, 2, 0}, {10, 2, 0}, {11, 1, 1}, {12, 1, 1}, {13, 2, 1}, {99, 2, 1}};
        for (int[] one : best) {
            due("best(" + one[0] + ", 0, 0)", house.best(one[0], 0, 0), one[1]);
            due("best(" + one[0] + ", 0, 1)", house.best(one[0], 0, 1), one[2]);
        }
        due("best(-1, 0, 0)", house.best(-1, 0, 0), NONE);
        due("best(100, 0, 0)", house.best(100, 0, 0), NONE);
        due("best(9, 1, 0)", house.best(9, 1, 0), NONE);
        due("best(9, 0, 2)", house.best(9, 0, 2), NONE);
        // Of like rows the first: 0 1 stands ahead of 1 0.
        house = told("part 3 0 1;base 1;base 1;cell 0 0 1 6 0;cell 1 0 1 6 0;");
        due("best(5, 0, 0)", house.best(5, 0, 0), 0);
        due("best(5, 1, 0)", house.best(5, 1, 0), 1);
        due("best(6, 0, 0)", house.best(6, 0, 0), 1);
        house.set(0, 0, 6);
        due("by another price", house.best(6, 0, 0), 0);
        due("by another price", house.best(5, 1, 0), 0);
    }

    private static void promise34() {
        promise = 34;
        SparesHouse house = told(WEIGHED);
        // 144 without; 81 by 2, 72 by 4, 9 by 11, 0 by 13.
        int[][] purse = {{100, 0}, {99, 2}, {57, 2}, {56, 4}, {50, 4}, {49, 11}, {7, 11}, {6, 13}, {0, 13}};
        for (int[] one : purse) {
            due("purseFor(" + one[0] + ")", house.purseFor(one[0]), one[1]);
        }
        due("purseFor(-1)", house.purseFor(-1), NONE);
        due("purseFor(101)", house.purseFor(101), NONE);
        house = told("part 30 0 1;base 1;cell 0 0 8 12 0;");
        // Three of eight: 62.5 hundredths still lack.
        due("purseFor(63)", house.purseFor(63), 90);
        due("purseFor(62)", house.purseFor(62), -2);
        due("nothing lacks", new SparesHouse().purseFor(0), 0);
    }

    private static void promise35() {
        promise = 35;
        SparesHouse house = told("part 1 9 1;base 1;cell 0 0 2 12 1;");
        // Day 0 from the hand, day 1 and 2 wants.
        int[] want = {5, 3, 1, 2, 0, 7, 4, 0, 0, 3, 0};
        for (int what = 0; what <= 10; what++) {
            due("would(5, 1, " + what + ")", house.would(5, 1, what), want[what]);
        }
        due("would(12, 1, 0)", house.would(12, 1, 0), 12);
        due("would(13, 1, 0)", house.would(13, 1, 0), NONE);
        due("would(0, 1, 0)", house.would(0, 1, 0), NONE);
        due("would(5, 1, 11)", house.would(5, 1, 11), NONE);
        due("would(5, 1, -1)", house.would(5, 1, -1), NONE);
        due("nothing happens", house.played(0) + house.played(1) + house.count(5) + house.count(9), 0);
        house.run(5, 1);
        due("would behind it", house.would(1, 1, 5), 9);
        // The seed counts: draws of 7 are 1 3 4 5 8 4, of -1 are 1 0 3 9 10 8.
        house = told("part 1 9 1;base 1;cell 0 0 8 4 9;");
        due("would(6, 7, 1)", house.would(6, 7, 1), 2);
        due("would(6, -1, 1)", house.would(6, -1, 1), 3);
    }

    private static void promise36() {
        promise = 36;
        SparesHouse house = told(SENDING);
        house.breaks(0, 0);
        house.breaks(0, 0);
        house.breaks(0, 0);
        house.pass(2);
        // By day 8: 6 + 8 as it is; 2 + 6, were the oldest filled now.
        due("spared(6, 0, 0, 0)", house.spared(6, 0, 0, 0), 6);
        // A spare at base 1 is lent on day 3, comes on day 8: the second want is filled on day 8 all the same.
        due("spared(6, 0, 1, 0)", house.spared(6, 0, 1, 0), 0);
        due("spared(0, 0, 0, 0)", house.spared(0, 0, 0, 0), -100000);
        due("spared(13, 0, 0, 0)", house.spared(13, 0, 0, 0), -100000);
        due("spared(6, 0, 2, 0)", house.spared(6, 0, 2, 0), -100000);
        due("spared(6, 0, 0, 1)", house.spared(6, 0, 0, 1), -100000);
        due("nothing happens", house.cell(0, 0, 2) + 10 * house.played(3) + 100 * house.count(5), 421);
        house = told("part 1 9 1;base 1;cell 0 0 8 0 9;");
        for (int i = 0; i < 10; i++) {
            house.breaks(0, 0);
        }
        due("though the stock is 9", house.spared(3, 0, 0, 0), 3);
    }

    private static void promise37() {
        promise = 37;
        SparesHouse house = told(SENDING);
        house.breaks(0, 0);
        house.breaks(0, 0);
        house.breaks(0, 0);
        house.pass(2);
        due("by(6, 0, 2, 1)", house.by(6, 0, 2, 1), 14);
        due("by(6, 0, 2, 2)", house.by(6, 0, 2, 2), 12);
        due("by(6, 0, 2, 3)", house.by(6, 0, 2, 3), 12);
        due("by(6, 0, 2, 0)", house.by(6, 0, 2, 0), NONE);
        due("by(6, 0, 2, 4)", house.by(6, 0, 2, 4), NONE);
        due("by(6, 0, 1, 5)", house.by(6, 0, 1, 5), NONE);
        due("by(6, 0, 1, -1)", house.by(6, 0, 1, -1), NONE);
        due("by(6, 0, 0, 2)", house.by(6, 0, 0, 2), NONE);
        due("by(6, 0, 3, 1)", house.by(6, 0, 3, 1), NONE);
        due("by(6, 0, -1, 1)", house.by(6, 0, -1, 1), NONE);
        due("by(13, 0, 0, 0)", house.by(13, 0, 0, 0), NONE);
        due("by(0, 0, 0, 0)", house.by(0, 0, 0, 0), NONE);
        due("nothing happens", house.count(2) + 10 * house.part(0, 6) + 100 * house.count(5), 421);
        // Base 0 called first and has no want; the piece is off the bench on day 2, at its base on day 3.
        house = told("part 5 0 1;base 1;base 1;cell 0 0 3 0 1;cell 1 0 3 0 0;");
        house.breaks(0, 0);
        house.breaks(1, 0);
        due("by(6, 0, 0, 1)", house.by(6, 0, 0, 1), 3);
        // By rule 0 base 1's own comes on day 4 (base 0's is lent on day 3 and comes on day 5).
        due("by(6, 0, 0, 0)", house.by(6, 0, 0, 0), 4);
        due("count(4)", house.count(4), 0);
    }

    private static void promise38() {
        promise = 38;
        // Lent pieces are under way for 18 days: by KEEP 0 base 1 lacks its last one a day sooner.
        SparesHouse house = told("part 1 9 1;base 9;base 9;cell 0 0 1 0 0;cell 1 0 1 12 2;");
        house.breaks(0, 0);
        due("by(3, 4, 1, 0)", house.by(3, 4, 1, 0), 5);
        due("by(3, 4, 1, 1)", house.by(3, 4, 1, 1), 4);
        due("by(3, 4, 1, 4)", house.by(3, 4, 1, 4), 4);
        due("bestKeep(3, 4)", house.bestKeep(3, 4), 1);
        due("bestKeep(1, 4)", house.bestKeep(1, 4), 0);
        due("bestKeep(0, 4)", house.bestKeep(0, 4), NONE);
        due("bestKeep(13, 4)", house.bestKeep(13, 4), NONE);
        due("count(3)", house.count(3), 0);
        due("count(5)", house.count(5), 1);
        house.keep(3);
        due("whatever KEEP is", house.bestKeep(3, 4), 1);
    }

    private static void promise39() {
        promise = 39;
        SparesHouse house = told(SENDING);
        due("quiet()", house.quiet(), 0);
        house.pass(3);
        due("quiet()", house.quiet(), 3);
        house.breaks(0, 0);
        house.breaks(0, 0);
        house.breaks(0, 0);
        due("quiet()", house.quiet(), 13);
        due("nothing happens", house.played(0), 3);
        house.pass(10);
        due("quiet()", house.quiet(), 13);
        // The mended one comes on day 3, the lent one on day 4.
        house = told(LENDING);
        house.breaks(0, 0);
        due("quiet()", house.quiet(), 4);
        // A shipped piece comes on day 2, the broken one is off the bench on day 4.
        house = told("keep 4;part 5 0 2;base 2;base 3;cell 0 0 1 0 0;cell 1 0 1 0 1;works 0 9;");
        house.breaks(0, 0);
        due("quiet()", house.quiet(), 4);
        house = nearTheEnd();
        house.breaks(0, 0);
        due("quiet() up to the last day", house.quiet(), 9999);
        house.pass(1);
        due("quiet()", house.quiet(), 9999);
        house.breaks(0, 0);
        due("quiet() beyond the last day", house.quiet(), -2);
    }

    private static void promise40() {
        promise = 40;
        SparesHouse house = new SparesHouse();
        spells("a new one", house, "benches 1;keep 0;rule 0;");
        due("spell(24)", house.spell(24), -2);
        due("spell(far)", house.spell(FAR), -2);
        due("spell(-2)", house.spell(-2), NONE);
        due("spell(deep)", house.spell(DEEP), NONE);
        String text = "benches 2;keep 3;rule 1;part 30 0 9;part 4 9 1;base 9;base 1;"
            + "cell 0 0 8 12 9;cell 0 1 0 1 0;cell 1 1 0 0 1;works 1 9;";
        house = told("base 9;part 30 0 9;\npart 04 9 1;base 1;works 0 0;works 1 9;rule 1;"
            + "cell 1 1 0 0 1; cell 0 0 8 12 9;cell 0 1 0 1 0;cell 1 0 0 0 0;keep 3;benches 2;");
        spells("a told one", house, text);
        SparesHouse again = told(spelled(house));
        spells("told again", again, text);
        house.buy(1, 0);
        house.supply(0);
        house.odds(0, 0, 0);
        house.set(0, 1, 5);
        house.rule();
        house.keep(0);
        house.benches(3);
        spells("a changed one", house, "benches 3;keep 0;rule 0;part 30 5 9;part 4 9 1;base 9;base 1;"
            + "cell 0 0 8 0 9;cell 0 1 0 1 0;cell 1 0 0 0 1;cell 1 1 0 0 1;works 0 1;works 1 9;");
        String longest = "benches 3;keep 4;rule 1;part 30 9 9;part 30 9 9;part 30 9 9;base 9;base 9;base 9;";
        StringBuilder all = new StringBuilder(longest);
        for (int base = 0; base < 3; base++) {
            for (int part = 0; part < 3; part++) {
                all.append("cell " + base + " " + part + " 8 12 9;");
            }
        }
        all.append("works 0 9;works 1 9;works 2 9;");
        spells("the longest", told(all.toString()), all.toString());
    }

    private static void promise41() {
        promise = 41;
        SparesHouse house = told("benches 3;keep 2;rule 1;part 1 0 1;part 1 0 1;base 1;base 1;base 1;"
            + "cell 0 0 8 0 9;cell 2 1 7 0 5;works 0 9;");
        house.feed(0, 0, 0, 0, 0);
        house.back(3);
        house.breaks(0, 0);
        house.breaks(2, 1);
        int[] want = {2, 3, 3, 2, 1, 2, 17, 15, 14, 3};
        for (int what = 0; what <= 9; what++) {
            due("count(" + what + ")", house.count(what), want[what]);
        }
        due("count(10)", house.count(10), NONE);
        due("count(-1)", house.count(-1), NONE);
        due("count(far)", house.count(FAR), NONE);
        house.buy(2, 1);
        due("count(8)", house.count(8), 15);
    }
}
