/**
 * A house of spare parts: kinds of pieces, bases and one works told as a text, played day by day,
 * weighed by odds, and asked what would have been; acts can be undone.
 */
public final class SparesHouse {
    public static final int NONE = -1;

    private static final int NOT_SO = -2;
    private static final int NO_SUCH_SPARED = -100000;
    private static final int NO_SUCH_LENT = -1000;

    private static final int MOST_PARTS = 3;
    private static final int MOST_BASES = 3;
    private static final int MOST_STOCK = 9;
    private static final int MOST_UNITS = 8;
    private static final int MOST_ODDS = 12;
    private static final int MOST_KEEP = 4;
    private static final int MOST_BENCHES = 3;
    private static final int MOST_PURSE = 99;
    private static final int ALL_HUNDREDTHS = 100;
    private static final int MOST_TAPE = 400;
    private static final int LAST_DAY = 9999;
    private static final int LONGEST_RUN = 30;
    private static final int LONGEST_WERE = 12;
    private static final int MOST_ACTS = 12;

    // A cell's place is its base times four and its part, so that both can be read off by masks.
    private static final int PART_PLACES = 4;
    private static final int CELL_PLACES = 16;
    private static final int PART_MASK = 3;
    private static final int BASE_MASK = 12;
    private static final int CELL_MASK = 15;

    private static final int MENDED = 0;
    private static final int SENT = 1;
    private static final int ON_BENCH = 2;
    private static final int SHIPPED = 3;
    private static final int LENT = 4;
    private static final int TO_A_BASE = (1 << SHIPPED) | (1 << LENT);

    private final byte[] tape = new byte[MOST_TAPE];
    private int tapeLength = 0;
    private final Play now = new Play();
    private final Play were = new Play();
    private final Acts acts = new Acts();
    private final Reader reader = new Reader();
    private final Speller speller = new Speller();
    private final Worth worth = new Worth();

    public SparesHouse() {
        now.beginAnew();
    }

    // ---- told

    public int feed(int a, int b, int c, int d, int e) {
        if (tapeLength + 20 > MOST_TAPE) {
            return NONE;
        }
        putFour(a);
        putFour(b);
        putFour(c);
        putFour(d);
        putFour(e);
        return tapeLength;
    }

    private void putFour(int four) {
        for (int shift = 24; shift >= 0; shift -= 8) {
            if (tapeLength < MOST_TAPE) {
                tape[tapeLength] = (byte) (four >>> shift);
                tapeLength++;
            }
        }
    }

    public int back(int n) {
        if (n < 0 || n > tapeLength) {
            return NONE;
        }
        tapeLength -= n;
        return tapeLength;
    }

    public int text() {
        int fault = reader.readAll(tape, tapeLength);
        tapeLength = 0;
        if (fault != NONE) {
            return -4 - fault;
        }
        now.plan.copyFrom(reader.told);
        now.beginAnew();
        acts.forget();
        worth.forget();
        return now.plan.bases * now.plan.parts;
    }

    // ---- acts

    public int breaks(int base, int part) {
        if (!now.plan.hasCell(base, part) || !now.canBreak(placeOf(base, part))) {
            return NONE;
        }
        acts.remember(now);
        return now.breakPiece(placeOf(base, part));
    }

    public int pass(int days) {
        if (!now.canGoBy(days, LONGEST_RUN)) {
            return NONE;
        }
        acts.remember(now);
        for (int i = 0; i < days; i++) {
            now.goBy();
        }
        return now.day;
    }

    public int run(int days, int seed) {
        if (!now.canGoBy(days, LONGEST_RUN)) {
            return NONE;
        }
        acts.remember(now);
        return now.drawDays(days, seed);
    }

    public int buy(int base, int part) {
        if (!now.plan.hasCell(base, part)) {
            return NONE;
        }
        int cell = placeOf(base, part);
        if (now.plan.stock[cell] >= MOST_STOCK) {
            return NONE;
        }
        acts.remember(now);
        now.plan.stock[cell]++;
        now.receive(cell);
        return now.plan.stock[cell];
    }

    public int sell(int base, int part) {
        if (!now.plan.hasCell(base, part)) {
            return NONE;
        }
        int cell = placeOf(base, part);
        if (now.plan.stock[cell] <= 0 || now.hand[cell] <= 0) {
            return NONE;
        }
        acts.remember(now);
        now.plan.stock[cell]--;
        now.hand[cell]--;
        return now.plan.stock[cell];
    }

    public int supply(int part) {
        if (!now.plan.hasPart(part) || now.plan.worksStock[part] >= MOST_STOCK) {
            return NONE;
        }
        acts.remember(now);
        now.plan.worksStock[part]++;
        now.worksHand[part]++;
        now.answerCalls(part);
        return now.plan.worksStock[part];
    }

    public int set(int part, int what, int v) {
        if (!now.plan.hasPart(part) || what < 0 || what > 2 || !Words.fitsPart(what, v)) {
            return NONE;
        }
        int before = now.plan.ofPart(part, what);
        if (before == v) {
            return NONE;
        }
        acts.remember(now);
        worth.forget();
        now.plan.changePart(part, what, v);
        return before;
    }

    public int odds(int base, int part, int v) {
        if (!now.plan.hasCell(base, part) || v < 0 || v > MOST_ODDS) {
            return NONE;
        }
        int cell = placeOf(base, part);
        int before = now.plan.odds[cell];
        if (before == v) {
            return NONE;
        }
        acts.remember(now);
        worth.forget();
        now.plan.odds[cell] = v;
        return before;
    }

    public int benches(int n) {
        int before = now.plan.benches;
        if (n < 1 || n > MOST_BENCHES || n == before) {
            return NONE;
        }
        acts.remember(now);
        now.haveBenches(n);
        return before;
    }

    public int keep(int n) {
        int before = now.plan.keep;
        if (n < 0 || n > MOST_KEEP || n == before) {
            return NONE;
        }
        acts.remember(now);
        now.plan.keep = n;
        return before;
    }

    public int rule() {
        int before = now.plan.rule;
        acts.remember(now);
        now.plan.rule = 1 - before;
        return before;
    }

    public int begin() {
        int before = now.day;
        acts.remember(now);
        now.beginAnew();
        return before;
    }

    public int undo() {
        if (!acts.takeBack(now)) {
            return NONE;
        }
        worth.forget();
        return acts.size;
    }

    // ---- asked

    public int part(int part, int what) {
        if (!now.plan.hasPart(part)) {
            return NONE;
        }
        switch (what) {
            case 0:
            case 1:
            case 2:
                return now.plan.ofPart(part, what);
            case 3:
                return now.plan.worksStock[part];
            case 4:
                return now.worksHand[part];
            case 5:
                return now.calls.countAt(PART_MASK, part);
            case 6:
                return now.waiting.countAt(PART_MASK, part);
            case 7:
                return now.waysOf(1 << ON_BENCH, PART_MASK, part);
            case 8:
                return now.waysOf(1 << SENT, PART_MASK, part);
            default:
                return NONE;
        }
    }

    public int base(int base, int what) {
        if (!now.plan.hasBase(base)) {
            return NONE;
        }
        int place = placeOf(base, 0);
        switch (what) {
            case 0:
                return now.plan.ship[base];
            case 1:
                return now.wants.countAt(BASE_MASK, place);
            case 2:
                return now.calls.countAt(BASE_MASK, place);
            case 3:
                return now.waysOf(TO_A_BASE, BASE_MASK, place);
            case 4:
                return now.inHand(base);
            default:
                return NONE;
        }
    }

    public int cell(int base, int part, int what) {
        if (!now.plan.hasCell(base, part)) {
            return what == 8 ? NO_SUCH_LENT : NONE;
        }
        int cell = placeOf(base, part);
        switch (what) {
            case 0:
                return now.plan.units[cell];
            case 1:
                return now.plan.odds[cell];
            case 2:
                return now.plan.stock[cell];
            case 3:
                return now.hand[cell];
            case 4:
                return now.holes[cell];
            case 5:
                return now.calls.countAt(CELL_MASK, cell);
            case 6:
                return now.waysOf(TO_A_BASE, CELL_MASK, cell);
            case 7:
                return now.waysOf(1 << MENDED, CELL_MASK, cell);
            case 8:
                return now.lentNet[cell];
            default:
                return NONE;
        }
    }

    public int want(int k, int what) {
        if (!now.wants.has(k)) {
            return NONE;
        }
        long slip = now.wants.at(k);
        switch (what) {
            case 0:
                return baseOf(Slip.place(slip));
            case 1:
                return partOf(Slip.place(slip));
            case 2:
                return Slip.day(slip);
            case 3:
                return Slip.mark(slip);
            default:
                return NONE;
        }
    }

    public int call(int part, int k, int what) {
        if (!now.plan.hasPart(part)) {
            return NONE;
        }
        int i = now.calls.findAt(PART_MASK, part, k);
        if (i == NONE) {
            return NONE;
        }
        long slip = now.calls.at(i);
        switch (what) {
            case 0:
                return baseOf(Slip.place(slip));
            case 1:
                return Slip.day(slip);
            default:
                return NONE;
        }
    }

    public int way(int k, int what) {
        if (!now.ways.has(k)) {
            return NONE;
        }
        long slip = now.ways.at(k);
        switch (what) {
            case 0:
                return Slip.mark(slip);
            case 1:
                return Slip.number(slip);
            case 2:
                return partOf(Slip.place(slip));
            case 3:
                return Slip.mark(slip) == ON_BENCH ? NOT_SO : baseOf(Slip.place(slip));
            case 4:
                return Slip.day(slip);
            default:
                return NONE;
        }
    }

    public int waits(int k) {
        return now.waiting.has(k) ? partOf(Slip.place(now.waiting.at(k))) : NONE;
    }

    public int played(int what) {
        return now.tell(what);
    }

    // ---- by odds

    public long out(int base, int part, int x) {
        if (!now.plan.hasCell(base, part) || x < 0 || x > MOST_UNITS) {
            return NONE;
        }
        worth.learnLack(now.plan);
        return worth.outOf(placeOf(base, part), x);
    }

    public long lack(int base, int part, int s) {
        if (!now.plan.hasCell(base, part) || s < 0 || s > MOST_STOCK) {
            return NONE;
        }
        worth.learnLack(now.plan);
        return worth.lackOf(placeOf(base, part), s);
    }

    public long lacks() {
        worth.learnLack(now.plan);
        return worth.lackBySpares(now.plan, now.plan.stock);
    }

    public int sure(int base, int part, int hundredths) {
        if (!now.plan.hasCell(base, part) || hundredths < 0 || hundredths > ALL_HUNDREDTHS) {
            return NONE;
        }
        worth.learnLack(now.plan);
        return worth.leastSure(placeOf(base, part), hundredths);
    }

    public int buys(int k, int what) {
        worth.learnBuys(now.plan);
        if (k < 0 || k >= worth.buyCount) {
            return NONE;
        }
        switch (what) {
            case 0:
                return baseOf(worth.buyCell[k]);
            case 1:
                return partOf(worth.buyCell[k]);
            case 2:
                return worth.buyNth[k];
            case 3:
                return worth.buySum[k];
            default:
                return NONE;
        }
    }

    public int bought(int purse, int what) {
        if (!isPurse(purse) || what < 0 || what > 4) {
            return NONE;
        }
        worth.learnBuys(now.plan);
        int many = worth.buysWithin(purse);
        if (what == 0) {
            return many;
        }
        if (what == 1) {
            return many > 0 ? worth.buySum[many - 1] : 0;
        }
        return worth.buysOfBase(many, what - 2);
    }

    public long lacksBy(int purse, boolean best) {
        if (!isPurse(purse)) {
            return NONE;
        }
        if (best) {
            worth.learnBest(now.plan);
            return worth.least[purse];
        }
        worth.learnBuys(now.plan);
        worth.countBuys(worth.buysWithin(purse));
        return worth.lackBySpares(now.plan, worth.spares);
    }

    public int best(int purse, int base, int part) {
        if (!isPurse(purse) || !now.plan.hasCell(base, part)) {
            return NONE;
        }
        worth.learnBest(now.plan);
        return worth.bestSpares(now.plan, purse, base * MOST_PARTS + part);
    }

    public int purseFor(int hundredths) {
        if (hundredths < 0 || hundredths > ALL_HUNDREDTHS) {
            return NONE;
        }
        worth.learnBest(now.plan);
        long most = worth.least[0] * hundredths;
        for (int purse = 0; purse <= MOST_PURSE; purse++) {
            if (worth.least[purse] * ALL_HUNDREDTHS <= most) {
                return purse;
            }
        }
        return NOT_SO;
    }

    private static boolean isPurse(int purse) {
        return purse >= 0 && purse <= MOST_PURSE;
    }

    // ---- were

    public int would(int days, int seed, int what) {
        if (!now.canGoBy(days, LONGEST_WERE)) {
            return NONE;
        }
        were.copyFrom(now);
        were.drawDays(days, seed);
        return were.tell(what);
    }

    public int spared(int days, int seed, int base, int part) {
        if (!now.canGoBy(days, LONGEST_WERE) || !now.plan.hasCell(base, part)) {
            return NO_SUCH_SPARED;
        }
        were.copyFrom(now);
        int late = lateBehindRun(days, seed);
        were.copyFrom(now);
        were.receive(placeOf(base, part));
        return late - lateBehindRun(days, seed);
    }

    public int by(int days, int seed, int what, int v) {
        if (!now.canGoBy(days, LONGEST_WERE) || what < 0 || what > 2) {
            return NONE;
        }
        if (!Words.fitsHouse(whichWord(what), v)) {
            return NONE;
        }
        were.copyFrom(now);
        if (what == 0) {
            were.plan.rule = v;
        } else if (what == 1) {
            were.plan.keep = v;
        } else {
            were.haveBenches(v);
        }
        return lateBehindRun(days, seed);
    }

    private static int whichWord(int what) {
        return what == 0 ? Words.RULE : what == 1 ? Words.KEEP : Words.BENCHES;
    }

    public int bestKeep(int days, int seed) {
        if (!now.canGoBy(days, LONGEST_WERE)) {
            return NONE;
        }
        int found = 0;
        int least = 0;
        for (int v = 0; v <= MOST_KEEP; v++) {
            were.copyFrom(now);
            were.plan.keep = v;
            int late = lateBehindRun(days, seed);
            if (v == 0 || late < least) {
                found = v;
                least = late;
            }
        }
        return found;
    }

    private int lateBehindRun(int days, int seed) {
        were.drawDays(days, seed);
        return were.late();
    }

    public int quiet() {
        were.copyFrom(now);
        return were.goTillQuiet();
    }

    // ---- texts

    public int spell(int i) {
        if (i < NONE) {
            return NONE;
        }
        speller.write(now.plan);
        if (i == NONE) {
            return speller.length;
        }
        return i < speller.length ? speller.bytes[i] : NOT_SO;
    }

    public int count(int what) {
        switch (what) {
            case 0:
                return now.plan.parts;
            case 1:
                return now.plan.bases;
            case 2:
                return now.plan.benches;
            case 3:
                return now.plan.keep;
            case 4:
                return now.plan.rule;
            case 5:
                return acts.size;
            case 6:
                return tapeLength;
            case 7:
                return sum(now.plan.units);
            case 8:
                return sum(now.plan.stock);
            case 9:
                return now.begun;
            default:
                return NONE;
        }
    }

    private static int sum(int[] numbers) {
        int all = 0;
        for (int i = 0; i < numbers.length; i++) {
            all += numbers[i];
        }
        return all;
    }

    private static int placeOf(int base, int part) {
        return base * PART_PLACES + part;
    }

    private static int baseOf(int place) {
        return place / PART_PLACES;
    }

    private static int partOf(int place) {
        return place & PART_MASK;
    }

    /** What a text tells; places without a part, a base or a cell hold 0. */
    private static final class Plan {
        int parts = 0;
        int bases = 0;
        int benches = 1;
        int keep = 0;
        int rule = 0;
        final int[] price = new int[PART_PLACES];
        final int[] mend = new int[PART_PLACES];
        final int[] work = new int[PART_PLACES];
        final int[] worksStock = new int[PART_PLACES];
        final int[] ship = new int[PART_PLACES];
        final int[] units = new int[CELL_PLACES];
        final int[] odds = new int[CELL_PLACES];
        final int[] stock = new int[CELL_PLACES];

        void clear() {
            parts = 0;
            bases = 0;
            benches = 1;
            keep = 0;
            rule = 0;
            for (int i = 0; i < PART_PLACES; i++) {
                price[i] = 0;
                mend[i] = 0;
                work[i] = 0;
                worksStock[i] = 0;
                ship[i] = 0;
            }
            for (int i = 0; i < CELL_PLACES; i++) {
                units[i] = 0;
                odds[i] = 0;
                stock[i] = 0;
            }
        }

        void copyFrom(Plan other) {
            parts = other.parts;
            bases = other.bases;
            benches = other.benches;
            keep = other.keep;
            rule = other.rule;
            System.arraycopy(other.price, 0, price, 0, PART_PLACES);
            System.arraycopy(other.mend, 0, mend, 0, PART_PLACES);
            System.arraycopy(other.work, 0, work, 0, PART_PLACES);
            System.arraycopy(other.worksStock, 0, worksStock, 0, PART_PLACES);
            System.arraycopy(other.ship, 0, ship, 0, PART_PLACES);
            System.arraycopy(other.units, 0, units, 0, CELL_PLACES);
            System.arraycopy(other.odds, 0, odds, 0, CELL_PLACES);
            System.arraycopy(other.stock, 0, stock, 0, CELL_PLACES);
        }

        boolean hasPart(int part) {
            return part >= 0 && part < parts;
        }

        boolean hasBase(int base) {
            return base >= 0 && base < bases;
        }

        boolean hasCell(int base, int part) {
            return hasBase(base) && hasPart(part);
        }

        int ofPart(int part, int what) {
            return what == 0 ? price[part] : what == 1 ? mend[part] : work[part];
        }

        void changePart(int part, int what, int v) {
            if (what == 0) {
                price[part] = v;
            } else if (what == 1) {
                mend[part] = v;
            } else {
                work[part] = v;
            }
        }
    }

    /** A slip is one number: a day, a running number, a mark and a place, the day weighing most. */
    private static final class Slip {
        static long of(int day, int number, int mark, int place) {
            return ((long) day << 40) | ((long) number << 8) | (mark << 4) | (place & CELL_MASK);
        }

        static int day(long slip) {
            return (int) (slip >>> 40);
        }

        static int number(long slip) {
            return (int) (slip >>> 8);
        }

        static int mark(long slip) {
            return (int) (slip >>> 4) & 15;
        }

        static int place(long slip) {
            return (int) slip & CELL_MASK;
        }
    }

    /** Slips in their order; a full row takes no more. */
    private static final class Row {
        final long[] slips;
        int size = 0;

        Row(int room) {
            slips = new long[Math.max(room, 0)];
        }

        boolean has(int i) {
            return i >= 0 && i < size && i < slips.length;
        }

        long at(int i) {
            return i >= 0 && i < slips.length ? slips[i] : 0L;
        }

        void add(long slip) {
            if (size < slips.length) {
                slips[size] = slip;
                size++;
            }
        }

        void put(int i, long slip) {
            if (has(i)) {
                slips[i] = slip;
            }
        }

        void insertInOrder(long slip) {
            if (size >= slips.length) {
                return;
            }
            int i = size;
            while (i > 0 && slips[i - 1] > slip) {
                slips[i] = slips[i - 1];
                i--;
            }
            slips[i] = slip;
            size++;
        }

        void removeAt(int i) {
            if (!has(i)) {
                return;
            }
            System.arraycopy(slips, i + 1, slips, i, size - 1 - i);
            size--;
        }

        int countAt(int mask, int place) {
            int many = 0;
            for (int i = 0; i < size; i++) {
                if ((slips[i] & mask) == place) {
                    many++;
                }
            }
            return many;
        }

        /** Where the k-th slip of a place is. */
        int findAt(int mask, int place, int k) {
            int seen = 0;
            for (int i = 0; i < size; i++) {
                if ((slips[i] & mask) == place) {
                    if (seen == k) {
                        return i;
                    }
                    seen++;
                }
            }
            return NONE;
        }

        void copyFrom(Row other) {
            size = Math.min(other.size, slips.length);
            System.arraycopy(other.slips, 0, slips, 0, size);
        }
    }

    /** A plan as it is played, day by day. */
    private static final class Play {
        // Units and stocks bound the pieces of a part: 24 + 27 + 9, and one spare that might come.
        private static final int MOST_PIECES = 184;
        private static final int MOST_WANTS = 72;

        final Plan plan = new Plan();
        final int[] hand = new int[CELL_PLACES];
        final int[] holes = new int[CELL_PLACES];
        final int[] lentNet = new int[CELL_PLACES];
        final int[] worksHand = new int[PART_PLACES];
        final Row ways = new Row(MOST_PIECES);
        final Row wants = new Row(MOST_WANTS);
        final Row calls = new Row(MOST_PIECES);
        final Row waiting = new Row(MOST_PIECES);
        int day = 0;
        int begun = 0;
        int onBenches = 0;
        int broken = 0;
        int handed = 0;
        int filled = 0;
        int lateOfFilled = 0;
        int longestOfFilled = 0;
        int lent = 0;
        int answered = 0;

        void beginAnew() {
            for (int i = 0; i < CELL_PLACES; i++) {
                hand[i] = plan.stock[i];
                holes[i] = 0;
                lentNet[i] = 0;
            }
            for (int i = 0; i < PART_PLACES; i++) {
                worksHand[i] = plan.worksStock[i];
            }
            ways.size = 0;
            wants.size = 0;
            calls.size = 0;
            waiting.size = 0;
            day = 0;
            begun = 0;
            onBenches = 0;
            broken = 0;
            handed = 0;
            filled = 0;
            lateOfFilled = 0;
            longestOfFilled = 0;
            lent = 0;
            answered = 0;
        }

        void copyFrom(Play other) {
            plan.copyFrom(other.plan);
            System.arraycopy(other.hand, 0, hand, 0, CELL_PLACES);
            System.arraycopy(other.holes, 0, holes, 0, CELL_PLACES);
            System.arraycopy(other.lentNet, 0, lentNet, 0, CELL_PLACES);
            System.arraycopy(other.worksHand, 0, worksHand, 0, PART_PLACES);
            ways.copyFrom(other.ways);
            wants.copyFrom(other.wants);
            calls.copyFrom(other.calls);
            waiting.copyFrom(other.waiting);
            day = other.day;
            begun = other.begun;
            onBenches = other.onBenches;
            broken = other.broken;
            handed = other.handed;
            filled = other.filled;
            lateOfFilled = other.lateOfFilled;
            longestOfFilled = other.longestOfFilled;
            lent = other.lent;
            answered = other.answered;
        }

        boolean canGoBy(int days, int longest) {
            return days >= 1 && days <= longest && day + days <= LAST_DAY;
        }

        boolean canBreak(int place) {
            int cell = place & CELL_MASK;
            return holes[cell] < plan.units[cell];
        }

        /** The number of the way of a piece that breaks; only where canBreak. */
        int breakPiece(int place) {
            int cell = place & CELL_MASK;
            int part = partOf(cell);
            int number = begun;
            broken++;
            if (hand[cell] > 0) {
                hand[cell]--;
                handed++;
            } else {
                holes[cell]++;
                wants.add(Slip.of(day, 0, 0, cell));
            }
            if (plan.mend[part] >= 1) {
                beginWay(MENDED, cell, plan.mend[part]);
            } else {
                beginWay(SENT, cell, plan.ship[baseOf(cell)]);
                calls.add(Slip.of(day, 0, 0, cell));
                answerCalls(part);
            }
            return number;
        }

        private void beginWay(int kind, int cell, int days) {
            ways.insertInOrder(Slip.of(day + days, begun, kind, cell));
            begun++;
            if (kind == ON_BENCH) {
                onBenches++;
            }
        }

        /** A piece comes to a cell. */
        void receive(int place) {
            int cell = place & CELL_MASK;
            int i = holes[cell] > 0 ? wants.findAt(CELL_MASK, cell, 0) : NONE;
            if (i == NONE) {
                hand[cell]++;
                return;
            }
            int waited = day - Slip.day(wants.at(i));
            wants.removeAt(i);
            holes[cell]--;
            filled++;
            lateOfFilled += waited;
            longestOfFilled = Math.max(longestOfFilled, waited);
        }

        void answerCalls(int which) {
            int part = which & PART_MASK;
            for (int i = 0; i < MOST_PIECES && worksHand[part] > 0; i++) {
                int k = callToAnswer(part);
                if (k == NONE) {
                    return;
                }
                int cell = Slip.place(calls.at(k));
                calls.removeAt(k);
                worksHand[part]--;
                answered++;
                beginWay(SHIPPED, cell, plan.ship[baseOf(cell)]);
            }
        }

        private int callToAnswer(int part) {
            int found = calls.findAt(PART_MASK, part, 0);
            if (found == NONE || plan.rule == 0) {
                return found;
            }
            for (int i = found + 1; i < calls.size; i++) {
                int cell = Slip.place(calls.at(i));
                if (partOf(cell) == part && holes[cell] > holes[Slip.place(calls.at(found))]) {
                    found = i;
                }
            }
            return found;
        }

        void haveBenches(int n) {
            plan.benches = n;
            fillBenches();
        }

        private void fillBenches() {
            for (int i = 0; i < MOST_BENCHES; i++) {
                if (onBenches >= plan.benches || waiting.size == 0) {
                    return;
                }
                int part = partOf(Slip.place(waiting.at(0)));
                waiting.removeAt(0);
                beginWay(ON_BENCH, part, plan.work[part]);
            }
        }

        void goBy() {
            day++;
            // What begins meanwhile comes a day later at least: the front alone is due.
            for (int i = 0; i < MOST_PIECES; i++) {
                if (ways.size == 0 || Slip.day(ways.at(0)) > day) {
                    break;
                }
                long slip = ways.at(0);
                ways.removeAt(0);
                come(Slip.mark(slip), Slip.place(slip));
            }
            lendAll();
        }

        private void come(int kind, int cell) {
            int part = partOf(cell);
            if (kind == SENT) {
                waiting.add(Slip.of(0, 0, 0, part));
                fillBenches();
            } else if (kind == ON_BENCH) {
                onBenches--;
                worksHand[part]++;
                answerCalls(part);
                fillBenches();
            } else {
                receive(cell);
            }
        }

        private void lendAll() {
            if (wants.size == 0 || !hasOneToLend()) {
                return;
            }
            for (int i = 0; i < wants.size; i++) {
                long slip = wants.at(i);
                if (Slip.mark(slip) == 0) {
                    int cell = Slip.place(slip);
                    int lender = lenderFor(cell);
                    if (lender != NONE) {
                        wants.put(i, Slip.of(Slip.day(slip), 0, 1, cell));
                        lend(lender, cell);
                    }
                }
            }
        }

        private boolean hasOneToLend() {
            for (int i = 0; i < CELL_PLACES; i++) {
                if (hand[i] > plan.keep) {
                    return true;
                }
            }
            return false;
        }

        private int lenderFor(int cell) {
            int part = partOf(cell);
            int found = NONE;
            int nearest = 0;
            for (int base = 0; base < plan.bases && base < MOST_BASES; base++) {
                int other = placeOf(base, part);
                if (other != cell && hand[other] > plan.keep) {
                    if (found == NONE || plan.ship[base] < nearest) {
                        found = other;
                        nearest = plan.ship[base];
                    }
                }
            }
            return found;
        }

        private void lend(int from, int to) {
            hand[from]--;
            lentNet[from]--;
            lentNet[to]++;
            lent++;
            beginWay(LENT, to, plan.ship[baseOf(from)] + plan.ship[baseOf(to)]);
        }

        /** How many pieces break in days of draws. */
        int drawDays(int days, int seed) {
            int before = broken;
            int x = seed;
            for (int i = 0; i < days; i++) {
                for (int base = 0; base < plan.bases; base++) {
                    for (int part = 0; part < plan.parts; part++) {
                        x = x * 1103515245 + 12345;
                        int cell = placeOf(base, part) & CELL_MASK;
                        if ((x >>> 8) % 12 < plan.odds[cell] && canBreak(cell)) {
                            breakPiece(cell);
                        }
                    }
                }
                goBy();
            }
            return broken - before;
        }

        int goTillQuiet() {
            for (int i = 0; i <= LAST_DAY && ways.size > 0; i++) {
                if (day >= LAST_DAY) {
                    return NOT_SO;
                }
                // Behind a day all that can be lent is lent, so nothing happens till the next one comes.
                if (i > 0) {
                    day = Math.min(Math.max(day, Slip.day(ways.at(0)) - 1), LAST_DAY - 1);
                }
                goBy();
            }
            return ways.size == 0 ? day : NOT_SO;
        }

        int waysOf(int kinds, int mask, int place) {
            int many = 0;
            for (int i = 0; i < ways.size; i++) {
                long slip = ways.at(i);
                if ((kinds >>> Slip.mark(slip) & 1) == 1 && (slip & mask) == place) {
                    many++;
                }
            }
            return many;
        }

        int inHand(int base) {
            int many = 0;
            for (int part = 0; part < plan.parts; part++) {
                many += hand[placeOf(base, part) & CELL_MASK];
            }
            return many;
        }

        int late() {
            int days = lateOfFilled;
            for (int i = 0; i < wants.size; i++) {
                days += day - Slip.day(wants.at(i));
            }
            return days;
        }

        private int longestWait() {
            // The first want is the oldest one of those that still wait.
            return wants.size == 0 ? longestOfFilled : Math.max(longestOfFilled, day - Slip.day(wants.at(0)));
        }

        int tell(int what) {
            switch (what) {
                case 0:
                    return day;
                case 1:
                    return broken;
                case 2:
                    return handed;
                case 3:
                    return wants.size;
                case 4:
                    return filled;
                case 5:
                    return late();
                case 6:
                    return longestWait();
                case 7:
                    return lent;
                case 8:
                    return answered;
                case 9:
                    return ways.size;
                case 10:
                    return waiting.size;
                default:
                    return NONE;
            }
        }
    }

    /** How the house was ahead of each of the latest acts. */
    private static final class Acts {
        private final Play[] kept = new Play[MOST_ACTS];
        private int next = 0;
        int size = 0;

        Acts() {
            for (int i = 0; i < MOST_ACTS; i++) {
                kept[i] = new Play();
            }
        }

        void remember(Play play) {
            Play place = kept[next];
            if (place != null) {
                place.copyFrom(play);
            }
            next = next + 1 < MOST_ACTS ? next + 1 : 0;
            size = Math.min(size + 1, MOST_ACTS);
        }

        boolean takeBack(Play play) {
            if (size == 0) {
                return false;
            }
            next = next > 0 ? next - 1 : MOST_ACTS - 1;
            size--;
            Play place = kept[next];
            if (place != null) {
                play.copyFrom(place);
            }
            return true;
        }

        void forget() {
            size = 0;
        }
    }

    /** The words of a text, how many numbers follow each and how large these may be. */
    private static final class Words {
        static final int BENCHES = 0;
        static final int KEEP = 1;
        static final int RULE = 2;
        static final int PART = 3;
        static final int BASE = 4;
        static final int CELL = 5;
        static final int WORKS = 6;
        static final int MANY = 7;
        static final int MOST_NUMBERS = 5;

        private static final int A_BASE = -1;
        private static final int A_PART = -2;
        private static final int[] NUMBERS = {1, 1, 1, 3, 1, 5, 2};
        private static final int[] FIRST = {0, 1, 2, 3, 6, 7, 12};
        private static final int[] LOW = {1, 0, 0, 1, 0, 1, 1, 0, 0, 0, 0, 0, 0, 0};
        private static final int[] HIGH = {3, 4, 1, 30, 9, 9, 9, A_BASE, A_PART, 8, 12, 9, A_PART, 9};

        static String spelled(int word) {
            switch (word) {
                case BENCHES:
                    return "benches";
                case KEEP:
                    return "keep";
                case RULE:
                    return "rule";
                case PART:
                    return "part";
                case BASE:
                    return "base";
                case CELL:
                    return "cell";
                default:
                    return "works";
            }
        }

        static int numbersOf(int word) {
            return word >= 0 && word < NUMBERS.length ? NUMBERS[word] : 0;
        }

        static boolean fits(int word, int i, int v, Plan told) {
            if (word < 0 || word >= FIRST.length) {
                return false;
            }
            int place = FIRST[word] + i;
            if (place < 0 || place >= LOW.length || place >= HIGH.length) {
                return false;
            }
            if (HIGH[place] == A_BASE) {
                return told.hasBase(v);
            }
            if (HIGH[place] == A_PART) {
                return told.hasPart(v);
            }
            return v >= LOW[place] && v <= HIGH[place];
        }

        static boolean fitsPart(int what, int v) {
            int place = FIRST[PART] + what;
            return place >= 0 && place < LOW.length && v >= LOW[place] && v <= HIGH[place];
        }

        static boolean fitsHouse(int word, int v) {
            return word >= BENCHES && word <= RULE && v >= LOW[word] && v <= HIGH[word];
        }
    }

    /** Reads a tape as a text. */
    private static final class Reader {
        final Plan told = new Plan();
        private final int[] numbers = new int[Words.MOST_NUMBERS];
        private byte[] bytes = new byte[0];
        private int length = 0;
        private int at = 0;

        /** The fault, or NONE: then told has all. */
        int readAll(byte[] tape, int many) {
            bytes = tape;
            length = Math.min(many, tape.length);
            at = 0;
            told.clear();
            for (int i = 0; i <= length; i++) {
                skipGaps();
                if (at >= length) {
                    return NONE;
                }
                int fault = readOne();
                if (fault != NONE) {
                    return fault;
                }
            }
            return NONE;
        }

        private int readOne() {
            int start = at;
            int word = readWord();
            if (word == NONE || isOneTooMany(word)) {
                return start;
            }
            for (int i = 0; i < Words.numbersOf(word); i++) {
                int fault = readNumber(word, i);
                if (fault != NONE) {
                    return fault;
                }
            }
            skipGaps();
            if (at >= length || bytes[at] != ';') {
                return at;
            }
            at++;
            take(word);
            return NONE;
        }

        private boolean isOneTooMany(int word) {
            return word == Words.PART && told.parts >= MOST_PARTS || word == Words.BASE && told.bases >= MOST_BASES;
        }

        private void skipGaps() {
            while (at < length && (bytes[at] == 32 || bytes[at] == 10)) {
                at++;
            }
        }

        private int readWord() {
            int start = at;
            while (at < length && bytes[at] >= 'a' && bytes[at] <= 'z') {
                at++;
            }
            for (int word = 0; word < Words.MANY; word++) {
                if (isSpelled(Words.spelled(word), start)) {
                    return word;
                }
            }
            return NONE;
        }

        private boolean isSpelled(String word, int start) {
            if (at - start != word.length()) {
                return false;
            }
            for (int i = 0; i < word.length(); i++) {
                if (bytes[start + i] != word.charAt(i)) {
                    return false;
                }
            }
            return true;
        }

        private int readNumber(int word, int i) {
            int behind = at;
            skipGaps();
            int start = at;
            if (start == behind) {
                return start;
            }
            int v = 0;
            while (at < length && bytes[at] >= '0' && bytes[at] <= '9') {
                v = v * 10 + (bytes[at] - '0');
                at++;
            }
            int digits = at - start;
            if (digits < 1 || digits > 2 || !Words.fits(word, i, v, told)) {
                return start;
            }
            if (i >= 0 && i < numbers.length) {
                numbers[i] = v;
            }
            return NONE;
        }

        private void take(int word) {
            switch (word) {
                case Words.BENCHES:
                    told.benches = numbers[0];
                    break;
                case Words.KEEP:
                    told.keep = numbers[0];
                    break;
                case Words.RULE:
                    told.rule = numbers[0];
                    break;
                case Words.PART:
                    takePart();
                    break;
                case Words.BASE:
                    takeBase();
                    break;
                case Words.CELL:
                    takeCell();
                    break;
                default:
                    told.worksStock[numbers[0] & PART_MASK] = numbers[1];
                    break;
            }
        }

        private void takePart() {
            int part = told.parts & PART_MASK;
            told.price[part] = numbers[0];
            told.mend[part] = numbers[1];
            told.work[part] = numbers[2];
            told.parts++;
        }

        private void takeBase() {
            told.ship[told.bases & PART_MASK] = numbers[0];
            told.bases++;
        }

        private void takeCell() {
            int cell = placeOf(numbers[0], numbers[1]) & CELL_MASK;
            told.units[cell] = numbers[2];
            told.odds[cell] = numbers[3];
            told.stock[cell] = numbers[4];
        }
    }

    /** Writes a plan as a text. */
    private static final class Speller {
        // The longest text has 24 bytes for the house, 36 for parts, 21 for bases, 144 for cells, 30 for works.
        final byte[] bytes = new byte[256];
        int length = 0;

        void write(Plan plan) {
            length = 0;
            writeOne(Words.BENCHES, plan.benches);
            writeOne(Words.KEEP, plan.keep);
            writeOne(Words.RULE, plan.rule);
            writeParts(plan);
            for (int base = 0; base < plan.bases && base < MOST_BASES; base++) {
                writeOne(Words.BASE, plan.ship[base]);
            }
            writeCells(plan);
            writeWorks(plan);
        }

        private void writeOne(int word, int n) {
            putWord(word);
            putNumber(n);
            put(';');
        }

        private void writeParts(Plan plan) {
            for (int part = 0; part < plan.parts && part < MOST_PARTS; part++) {
                putWord(Words.PART);
                putNumber(plan.price[part]);
                putNumber(plan.mend[part]);
                putNumber(plan.work[part]);
                put(';');
            }
        }

        private void writeCells(Plan plan) {
            for (int base = 0; base < plan.bases && base < MOST_BASES; base++) {
                for (int part = 0; part < plan.parts && part < MOST_PARTS; part++) {
                    int cell = placeOf(base, part);
                    if (plan.units[cell] != 0 || plan.odds[cell] != 0 || plan.stock[cell] != 0) {
                        putWord(Words.CELL);
                        putNumber(base);
                        putNumber(part);
                        putNumber(plan.units[cell]);
                        putNumber(plan.odds[cell]);
                        putNumber(plan.stock[cell]);
                        put(';');
                    }
                }
            }
        }

        private void writeWorks(Plan plan) {
            for (int part = 0; part < plan.parts && part < MOST_PARTS; part++) {
                if (plan.worksStock[part] != 0) {
                    putWord(Words.WORKS);
                    putNumber(part);
                    putNumber(plan.worksStock[part]);
                    put(';');
                }
            }
        }

        private void putWord(int word) {
            String letters = Words.spelled(word);
            for (int i = 0; i < letters.length(); i++) {
                put(letters.charAt(i));
            }
        }

        private void putNumber(int n) {
            put(' ');
            if (n >= 10) {
                put('0' + n / 10 % 10);
            }
            put('0' + n % 10);
        }

        private void put(int sign) {
            if (length < bytes.length) {
                bytes[length] = (byte) sign;
                length++;
            }
        }
    }

    /** What odds tell of a plan: kept till the plan's odds or prices change. */
    private static final class Worth {
        private static final int WAYS_OF_ONE = 12;
        private static final long ALL_WAYS = 429981696L;
        private static final int OUTS = MOST_UNITS + 1;
        private static final int LACKS = MOST_STOCK + 1;
        private static final int PURSES = MOST_PURSE + 1;
        private static final int MOST_CELLS = 9;
        private static final int MOST_BUYS = 72;

        private final long[] outs = new long[CELL_PLACES * OUTS];
        private final long[] lackBy = new long[CELL_PLACES * LACKS];
        final int[] buyCell = new int[MOST_BUYS];
        final int[] buyNth = new int[MOST_BUYS];
        final int[] buySum = new int[MOST_BUYS];
        int buyCount = 0;
        final int[] spares = new int[CELL_PLACES];
        // Of each cell's number and each purse: what the cells from that one on lack, cost, and its own spares.
        final long[] least = new long[(MOST_CELLS + 1) * PURSES];
        private final int[] cost = new int[(MOST_CELLS + 1) * PURSES];
        private final int[] pick = new int[MOST_CELLS * PURSES];
        private boolean knowsLack = false;
        private boolean knowsBuys = false;
        private boolean knowsBest = false;

        void forget() {
            knowsLack = false;
            knowsBuys = false;
            knowsBest = false;
        }

        long outOf(int cell, int x) {
            int i = cell * OUTS + x;
            return x >= 0 && x < OUTS && i >= 0 && i < outs.length ? outs[i] : 0L;
        }

        long lackOf(int cell, int s) {
            int i = cell * LACKS + s;
            return s >= 0 && s < LACKS && i >= 0 && i < lackBy.length ? lackBy[i] : 0L;
        }

        void learnLack(Plan plan) {
            if (knowsLack) {
                return;
            }
            // Places without a cell too: what an earlier text left there must not count.
            for (int cell = 0; cell < CELL_PLACES; cell++) {
                fillOuts(cell, plan.units[cell], plan.odds[cell]);
                fillLack(cell);
            }
            knowsLack = true;
        }

        private void fillOuts(int cell, int units, int odds) {
            int from = cell * OUTS;
            if (from < 0 || from + OUTS > outs.length) {
                return;
            }
            for (int x = 0; x < OUTS; x++) {
                outs[from + x] = x == 0 ? 1L : 0L;
            }
            for (int unit = 0; unit < MOST_UNITS; unit++) {
                int out = unit < units ? odds : 0;
                for (int x = MOST_UNITS; x > 0; x--) {
                    outs[from + x] = outs[from + x] * (WAYS_OF_ONE - out) + outs[from + x - 1] * out;
                }
                outs[from] = outs[from] * (WAYS_OF_ONE - out);
            }
        }

        private void fillLack(int cell) {
            int from = cell * LACKS;
            if (from < 0 || from + LACKS > lackBy.length) {
                return;
            }
            for (int s = 0; s < LACKS; s++) {
                long all = 0L;
                for (int x = s + 1; x < OUTS; x++) {
                    all += (x - s) * outOf(cell, x);
                }
                lackBy[from + s] = all;
            }
        }

        long lackBySpares(Plan plan, int[] many) {
            long all = 0L;
            for (int base = 0; base < plan.bases; base++) {
                for (int part = 0; part < plan.parts; part++) {
                    int cell = placeOf(base, part);
                    if (cell < many.length) {
                        all += lackOf(cell, many[cell]);
                    }
                }
            }
            return all;
        }

        int leastSure(int cell, int hundredths) {
            long reached = 0L;
            for (int s = 0; s <= MOST_STOCK; s++) {
                reached += outOf(cell, s);
                if (reached * ALL_HUNDREDTHS >= ALL_WAYS * hundredths) {
                    return s;
                }
            }
            return MOST_STOCK;
        }

        void learnBuys(Plan plan) {
            learnLack(plan);
            if (knowsBuys) {
                return;
            }
            for (int i = 0; i < CELL_PLACES; i++) {
                spares[i] = 0;
            }
            buyCount = 0;
            int sum = 0;
            for (int i = 0; i < MOST_BUYS; i++) {
                int cell = nextBuy(plan);
                if (cell == NONE) {
                    break;
                }
                spares[cell]++;
                sum += plan.price[partOf(cell)];
                buyCell[i] = cell;
                buyNth[i] = spares[cell];
                buySum[i] = sum;
                buyCount = i + 1;
            }
            knowsBuys = true;
        }

        private int nextBuy(Plan plan) {
            int found = NONE;
            long foundGain = 0L;
            int foundPrice = 1;
            for (int base = 0; base < plan.bases && base < MOST_BASES; base++) {
                for (int part = 0; part < plan.parts && part < MOST_PARTS; part++) {
                    int cell = placeOf(base, part);
                    long gain = gainOf(cell);
                    if (gain * foundPrice > foundGain * plan.price[part]) {
                        found = cell;
                        foundGain = gain;
                        foundPrice = plan.price[part];
                    }
                }
            }
            return found;
        }

        private long gainOf(int cell) {
            int s = spares[cell & CELL_MASK];
            return s < MOST_STOCK ? lackOf(cell, s) - lackOf(cell, s + 1) : 0L;
        }

        int buysWithin(int purse) {
            int many = 0;
            while (many < buyCount && many < MOST_BUYS && buySum[many] <= purse) {
                many++;
            }
            return many;
        }

        int buysOfBase(int many, int base) {
            int found = 0;
            for (int i = 0; i < many && i < MOST_BUYS; i++) {
                if (baseOf(buyCell[i]) == base) {
                    found++;
                }
            }
            return found;
        }

        /** The spares of each cell by the first buys. */
        void countBuys(int many) {
            for (int i = 0; i < CELL_PLACES; i++) {
                spares[i] = 0;
            }
            for (int i = 0; i < many && i < MOST_BUYS; i++) {
                spares[buyCell[i] & CELL_MASK]++;
            }
        }

        void learnBest(Plan plan) {
            learnLack(plan);
            if (knowsBest) {
                return;
            }
            for (int purse = 0; purse < PURSES; purse++) {
                least[MOST_CELLS * PURSES + purse] = 0L;
                cost[MOST_CELLS * PURSES + purse] = 0;
            }
            for (int cell = MOST_CELLS - 1; cell >= 0; cell--) {
                for (int purse = 0; purse < PURSES; purse++) {
                    pickSpares(plan, cell, purse);
                }
            }
            knowsBest = true;
        }

        private void pickSpares(Plan plan, int number, int purse) {
            int part = number % MOST_PARTS;
            int cell = placeOf(number / MOST_PARTS, part) & CELL_MASK;
            int price = plan.price[part];
            int here = number * PURSES + purse;
            // Spares beyond the units spare nothing and cost more; a cell that isn't there has no units.
            for (int s = 0; s <= plan.units[cell] && s * price <= purse; s++) {
                int rest = (number + 1) * PURSES + purse - s * price;
                long lack = lackOf(cell, s) + least[rest];
                int coins = s * price + cost[rest];
                if (s == 0 || lack < least[here] || lack == least[here] && coins < cost[here]) {
                    least[here] = lack;
                    cost[here] = coins;
                    pick[here] = s;
                }
            }
        }

        int bestSpares(Plan plan, int purse, int number) {
            int left = purse;
            for (int i = 0; i < number && i < MOST_CELLS; i++) {
                left -= pickOf(i, left) * plan.price[i % MOST_PARTS];
            }
            return pickOf(number, left);
        }

        private int pickOf(int number, int purse) {
            int i = number * PURSES + purse;
            return purse >= 0 && purse < PURSES && i >= 0 && i < pick.length ? pick[i] : 0;
        }
    }
}
