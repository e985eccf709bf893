import java.util.ArrayList;
import java.util.Arrays;
import java.util.List;

/**
 * The document told a second time, as plainly as lists and loops allow, without regard to cost:
 * CompareTests holds SparesHouse against it.
 */
final class NaiveHouse {
    static final class Part {
        int price, mend, work, stock, hand;
    }

    static final class Cell {
        int units, odds, stock, hand, holes, net;
    }

    static final class Want {
        int base, part, day;
        boolean lentFor;
    }

    static final class Call {
        int base, part, day;
    }

    static final class Way {
        int kind, number, part, base, comes;
    }

    /** All that acts can change. */
    static final class State {
        List<Part> parts = new ArrayList<>();
        List<Integer> ships = new ArrayList<>();
        Cell[][] cells = new Cell[3][3];
        int benches = 1, keep, rule;
        int day, broke, handed, filled, lateFilled, longest, lent, answered, begun;
        List<Want> wants = new ArrayList<>();
        List<Call> calls = new ArrayList<>();
        List<Way> ways = new ArrayList<>();
        List<Integer> waiting = new ArrayList<>();

        State() {
            for (Cell[] row : cells) {
                for (int i = 0; i < 3; i++) {
                    row[i] = new Cell();
                }
            }
        }

        State copy() {
            State s = new State();
            for (Part p : parts) {
                Part q = new Part();
                q.price = p.price;
                q.mend = p.mend;
                q.work = p.work;
                q.stock = p.stock;
                q.hand = p.hand;
                s.parts.add(q);
            }
            s.ships.addAll(ships);
            for (int b = 0; b < 3; b++) {
                for (int p = 0; p < 3; p++) {
                    Cell from = cells[b][p];
                    Cell to = s.cells[b][p];
                    to.units = from.units;
                    to.odds = from.odds;
                    to.stock = from.stock;
                    to.hand = from.hand;
                    to.holes = from.holes;
                    to.net = from.net;
                }
            }
            s.benches = benches;
            s.keep = keep;
            s.rule = rule;
            s.day = day;
            s.broke = broke;
            s.handed = handed;
            s.filled = filled;
            s.lateFilled = lateFilled;
            s.longest = longest;
            s.lent = lent;
            s.answered = answered;
            s.begun = begun;
            for (Want w : wants) {
                Want v = new Want();
                v.base = w.base;
                v.part = w.part;
                v.day = w.day;
                v.lentFor = w.lentFor;
                s.wants.add(v);
            }
            for (Call c : calls) {
                Call d = new Call();
                d.base = c.base;
                d.part = c.part;
                d.day = c.day;
                s.calls.add(d);
            }
            for (Way w : ways) {
                Way v = new Way();
                v.kind = w.kind;
                v.number = w.number;
                v.part = w.part;
                v.base = w.base;
                v.comes = w.comes;
                s.ways.add(v);
            }
            s.waiting.addAll(waiting);
            return s;
        }

        boolean hasPart(int p) {
            return p >= 0 && p < parts.size();
        }

        boolean hasBase(int b) {
            return b >= 0 && b < ships.size();
        }

        boolean hasCell(int b, int p) {
            return hasBase(b) && hasPart(p);
        }

        void begin() {
            day = broke = handed = filled = lateFilled = longest = lent = answered = begun = 0;
            wants.clear();
            calls.clear();
            ways.clear();
            waiting.clear();
            for (Cell[] row : cells) {
                for (Cell c : row) {
                    c.hand = c.stock;
                    c.holes = 0;
                    c.net = 0;
                }
            }
            for (Part p : parts) {
                p.hand = p.stock;
            }
        }

        void beginWay(int kind, int part, int base, int days) {
            Way w = new Way();
            w.kind = kind;
            w.number = begun++;
            w.part = part;
            w.base = base;
            w.comes = day + days;
            ways.add(w);
        }

        int breakPiece(int b, int p) {
            Cell c = cells[b][p];
            if (c.holes >= c.units) {
                return -1;
            }
            int number = begun;
            broke++;
            if (c.hand > 0) {
                c.hand--;
                handed++;
            } else {
                c.holes++;
                Want w = new Want();
                w.base = b;
                w.part = p;
                w.day = day;
                wants.add(w);
            }
            if (parts.get(p).mend >= 1) {
                beginWay(0, p, b, parts.get(p).mend);
            } else {
                beginWay(1, p, b, ships.get(b));
                Call k = new Call();
                k.base = b;
                k.part = p;
                k.day = day;
                calls.add(k);
                answer();
            }
            return number;
        }

        void answer() {
            for (int p = 0; p < parts.size(); p++) {
                while (parts.get(p).hand > 0) {
                    Call chosen = null;
                    int most = -1;
                    for (Call k : calls) {
                        if (k.part == p) {
                            int score = rule == 0 ? 0 : wantsOf(k.base, p);
                            if (score > most) {
                                most = score;
                                chosen = k;
                            }
                        }
                    }
                    if (chosen == null) {
                        break;
                    }
                    calls.remove(chosen);
                    parts.get(p).hand--;
                    answered++;
                    beginWay(3, p, chosen.base, ships.get(chosen.base));
                }
            }
        }

        int wantsOf(int b, int p) {
            int n = 0;
            for (Want w : wants) {
                if (w.base == b && w.part == p) {
                    n++;
                }
            }
            return n;
        }

        void piece(int b, int p) {
            for (Want w : wants) {
                if (w.base == b && w.part == p) {
                    int waited = day - w.day;
                    lateFilled += waited;
                    longest = Math.max(longest, waited);
                    filled++;
                    cells[b][p].holes--;
                    wants.remove(w);
                    return;
                }
            }
            cells[b][p].hand++;
        }

        void startBenches() {
            while (!waiting.isEmpty() && countWays(2, -1, -1) < benches) {
                int p = waiting.remove(0);
                beginWay(2, p, -2, parts.get(p).work);
            }
        }

        int countWays(int kind, int b, int p) {
            int n = 0;
            for (Way w : ways) {
                if (w.kind == kind && (b < 0 || w.base == b) && (p < 0 || w.part == p)) {
                    n++;
                }
            }
            return n;
        }

        void goBy() {
            day++;
            while (true) {
                Way next = null;
                for (Way w : ways) {
                    if (w.comes == day && (next == null || w.number < next.number)) {
                        next = w;
                    }
                }
                if (next == null) {
                    break;
                }
                ways.remove(next);
                if (next.kind == 1) {
                    waiting.add(next.part);
                } else if (next.kind == 2) {
                    parts.get(next.part).hand++;
                    answer();
                } else {
                    piece(next.base, next.part);
                }
                startBenches();
            }
            for (Want w : wants) {
                if (w.lentFor) {
                    continue;
                }
                int from = -1;
                for (int ship = 1; ship <= 9 && from < 0; ship++) {
                    for (int b = 0; b < ships.size() && from < 0; b++) {
                        if (b != w.base && ships.get(b) == ship && cells[b][w.part].hand > keep) {
                            from = b;
                        }
                    }
                }
                if (from >= 0) {
                    w.lentFor = true;
                    lent++;
                    cells[from][w.part].hand--;
                    cells[from][w.part].net--;
                    cells[w.base][w.part].net++;
                    beginWay(4, w.part, w.base, ships.get(from) + ships.get(w.base));
                }
            }
        }

        int run(int days, int seed) {
            int before = broke;
            int x = seed;
            for (int d = 0; d < days; d++) {
                for (int b = 0; b < ships.size(); b++) {
                    for (int p = 0; p < parts.size(); p++) {
                        x = x * 1103515245 + 12345;
                        if ((x >>> 8) % 12 < cells[b][p].odds) {
                            breakPiece(b, p);
                        }
                    }
                }
                goBy();
            }
            return broke - before;
        }

        int late() {
            int sum = lateFilled;
            for (Want w : wants) {
                sum += day - w.day;
            }
            return sum;
        }

        int played(int what) {
            int most = longest;
            for (Want w : wants) {
                most = Math.max(most, day - w.day);
            }
            int[] all = {day, broke, handed, wants.size(), filled, late(), most, lent, answered, ways.size(),
                waiting.size()};
            return what >= 0 && what < all.length ? all[what] : -1;
        }

        /** Pieces of a part, wherever they are; and what they must be together. */
        boolean keepsPieces() {
            for (int p = 0; p < parts.size(); p++) {
                int have = parts.get(p).hand;
                int due = parts.get(p).stock;
                for (int w : waiting) {
                    have += w == p ? 1 : 0;
                }
                for (int kind = 0; kind <= 4; kind++) {
                    have += countWays(kind, -1, p);
                }
                for (int b = 0; b < ships.size(); b++) {
                    have += cells[b][p].hand + cells[b][p].units - cells[b][p].holes;
                    due += cells[b][p].units + cells[b][p].stock;
                }
                if (have != due) {
                    return false;
                }
            }
            return true;
        }
    }

    private State now = new State();
    private final List<State> acts = new ArrayList<>();
    private final List<Integer> tape = new ArrayList<>();

    State state() {
        return now;
    }

    private void act() {
        acts.add(now.copy());
        if (acts.size() > 12) {
            acts.remove(0);
        }
    }

    int feed(int a, int b, int c, int d, int e) {
        if (tape.size() + 20 > 400) {
            return -1;
        }
        for (int four : new int[] {a, b, c, d, e}) {
            tape.add(four >>> 24);
            tape.add(four >>> 16 & 255);
            tape.add(four >>> 8 & 255);
            tape.add(four & 255);
        }
        return tape.size();
    }

    int back(int n) {
        if (n < 0 || n > tape.size()) {
            return -1;
        }
        for (int i = 0; i < n; i++) {
            tape.remove(tape.size() - 1);
        }
        return tape.size();
    }

    private static boolean letter(int c) {
        return c >= 'a' && c <= 'z';
    }

    private static boolean digit(int c) {
        return c >= '0' && c <= '9';
    }

    private static final class Token {
        String text;
        int at;
        boolean gapAhead;
    }

    private List<Token> tokens() {
        List<Token> all = new ArrayList<>();
        boolean gap = true;
        int i = 0;
        while (i < tape.size()) {
            int c = tape.get(i);
            if (c == 32 || c == 10) {
                gap = true;
                i++;
                continue;
            }
            Token t = new Token();
            t.at = i;
            t.gapAhead = gap;
            gap = false;
            StringBuilder text = new StringBuilder();
            text.append((char) c);
            i++;
            while (i < tape.size() && (letter(c) && letter(tape.get(i)) || digit(c) && digit(tape.get(i)))) {
                text.append((char) (int) tape.get(i));
                i++;
            }
            t.text = text.toString();
            all.add(t);
        }
        return all;
    }

    private static final List<String> WORDS =
        Arrays.asList("benches", "keep", "rule", "part", "base", "cell", "works");
    private static final int[][] BOUNDS = {
        {1, 3}, {0, 4}, {0, 1}, {1, 30, 0, 9, 1, 9}, {1, 9}, {0, -1, 0, -2, 0, 8, 0, 12, 0, 9}, {0, -2, 0, 9}};

    /** A new state, or the fault in where[0]. */
    private State read(int[] where) {
        State s = new State();
        List<Token> all = tokens();
        int i = 0;
        while (i < all.size()) {
            Token word = all.get(i++);
            int kind = WORDS.indexOf(word.text);
            where[0] = word.at;
            if (kind < 0 || kind == 3 && s.parts.size() == 3 || kind == 4 && s.ships.size() == 3) {
                return null;
            }
            int many = BOUNDS[kind].length / 2;
            int[] n = new int[many];
            for (int k = 0; k < many; k++) {
                where[0] = i < all.size() ? all.get(i).at : tape.size();
                if (i >= all.size()) {
                    return null;
                }
                Token t = all.get(i++);
                if (!digit(t.text.charAt(0)) || !t.gapAhead || t.text.length() > 2) {
                    return null;
                }
                n[k] = Integer.parseInt(t.text);
                int high = BOUNDS[kind][2 * k + 1];
                if (high < 0) {
                    high = (high == -1 ? s.ships.size() : s.parts.size()) - 1;
                }
                if (n[k] < BOUNDS[kind][2 * k] || n[k] > high) {
                    return null;
                }
            }
            where[0] = i < all.size() ? all.get(i).at : tape.size();
            if (i >= all.size() || !all.get(i++).text.equals(";")) {
                return null;
            }
            take(s, kind, n);
        }
        return s;
    }

    private static void take(State s, int kind, int[] n) {
        if (kind == 0) {
            s.benches = n[0];
        } else if (kind == 1) {
            s.keep = n[0];
        } else if (kind == 2) {
            s.rule = n[0];
        } else if (kind == 3) {
            Part p = new Part();
            p.price = n[0];
            p.mend = n[1];
            p.work = n[2];
            s.parts.add(p);
        } else if (kind == 4) {
            s.ships.add(n[0]);
        } else if (kind == 5) {
            Cell c = s.cells[n[0]][n[1]];
            c.units = n[2];
            c.odds = n[3];
            c.stock = n[4];
        } else {
            s.parts.get(n[0]).stock = n[1];
        }
    }

    int text() {
        int[] where = new int[1];
        State s = read(where);
        tape.clear();
        if (s == null) {
            return -4 - where[0];
        }
        now = s;
        now.begin();
        acts.clear();
        return s.ships.size() * s.parts.size();
    }

    int breaks(int base, int part) {
        if (!now.hasCell(base, part) || now.cells[base][part].holes >= now.cells[base][part].units) {
            return -1;
        }
        act();
        return now.breakPiece(base, part);
    }

    private boolean cannot(int days, int most) {
        return days < 1 || days > most || now.day + days > 9999;
    }

    int pass(int days) {
        if (cannot(days, 30)) {
            return -1;
        }
        act();
        for (int i = 0; i < days; i++) {
            now.goBy();
        }
        return now.day;
    }

    int run(int days, int seed) {
        if (cannot(days, 30)) {
            return -1;
        }
        act();
        return now.run(days, seed);
    }

    int buy(int base, int part) {
        if (!now.hasCell(base, part) || now.cells[base][part].stock == 9) {
            return -1;
        }
        act();
        now.piece(base, part);
        return ++now.cells[base][part].stock;
    }

    int sell(int base, int part) {
        if (!now.hasCell(base, part) || now.cells[base][part].stock == 0 || now.cells[base][part].hand == 0) {
            return -1;
        }
        act();
        now.cells[base][part].hand--;
        return --now.cells[base][part].stock;
    }

    int supply(int part) {
        if (!now.hasPart(part) || now.parts.get(part).stock == 9) {
            return -1;
        }
        act();
        now.parts.get(part).stock++;
        now.parts.get(part).hand++;
        now.answer();
        return now.parts.get(part).stock;
    }

    int set(int part, int what, int v) {
        if (!now.hasPart(part) || what < 0 || what > 2) {
            return -1;
        }
        int low = what == 1 ? 0 : 1;
        int high = what == 0 ? 30 : 9;
        int was = part(part, what);
        if (v < low || v > high || v == was) {
            return -1;
        }
        act();
        Part p = now.parts.get(part);
        if (what == 0) {
            p.price = v;
        } else if (what == 1) {
            p.mend = v;
        } else {
            p.work = v;
        }
        return was;
    }

    int odds(int base, int part, int v) {
        if (!now.hasCell(base, part) || v < 0 || v > 12 || v == now.cells[base][part].odds) {
            return -1;
        }
        act();
        int was = now.cells[base][part].odds;
        now.cells[base][part].odds = v;
        return was;
    }

    int benches(int n) {
        if (n < 1 || n > 3 || n == now.benches) {
            return -1;
        }
        act();
        int was = now.benches;
        now.benches = n;
        now.startBenches();
        return was;
    }

    int keep(int n) {
        if (n < 0 || n > 4 || n == now.keep) {
            return -1;
        }
        act();
        int was = now.keep;
        now.keep = n;
        return was;
    }

    int rule() {
        act();
        now.rule ^= 1;
        return now.rule ^ 1;
    }

    int begin() {
        act();
        int was = now.day;
        now.begin();
        return was;
    }

    int undo() {
        if (acts.isEmpty()) {
            return -1;
        }
        now = acts.remove(acts.size() - 1);
        return acts.size();
    }

    int part(int part, int what) {
        if (!now.hasPart(part)) {
            return -1;
        }
        Part p = now.parts.get(part);
        int calls = 0;
        for (Call c : now.calls) {
            calls += c.part == part ? 1 : 0;
        }
        int wait = 0;
        for (int w : now.waiting) {
            wait += w == part ? 1 : 0;
        }
        int[] all = {p.price, p.mend, p.work, p.stock, p.hand, calls, wait, now.countWays(2, -1, part),
            now.countWays(1, -1, part)};
        return what >= 0 && what < all.length ? all[what] : -1;
    }

    int base(int base, int what) {
        if (!now.hasBase(base)) {
            return -1;
        }
        int wants = 0;
        int hand = 0;
        int calls = 0;
        for (int p = 0; p < now.parts.size(); p++) {
            wants += now.wantsOf(base, p);
            hand += now.cells[base][p].hand;
        }
        for (Call c : now.calls) {
            calls += c.base == base ? 1 : 0;
        }
        int[] all = {now.ships.get(base), wants, calls, now.countWays(3, base, -1) + now.countWays(4, base, -1), hand};
        return what >= 0 && what < all.length ? all[what] : -1;
    }

    int cell(int base, int part, int what) {
        if (what < 0 || what > 8) {
            return -1;
        }
        if (!now.hasCell(base, part)) {
            return what == 8 ? -1000 : -1;
        }
        Cell c = now.cells[base][part];
        int calls = 0;
        for (Call k : now.calls) {
            calls += k.part == part && k.base == base ? 1 : 0;
        }
        int[] all = {c.units, c.odds, c.stock, c.hand, c.holes, calls,
            now.countWays(3, base, part) + now.countWays(4, base, part), now.countWays(0, base, part), c.net};
        return all[what];
    }

    int want(int k, int what) {
        if (k < 0 || k >= now.wants.size() || what < 0 || what > 3) {
            return -1;
        }
        Want w = now.wants.get(k);
        return new int[] {w.base, w.part, w.day, w.lentFor ? 1 : 0}[what];
    }

    int call(int part, int k, int what) {
        List<Call> of = new ArrayList<>();
        for (Call c : now.calls) {
            if (c.part == part) {
                of.add(c);
            }
        }
        if (k < 0 || k >= of.size() || what < 0 || what > 1) {
            return -1;
        }
        return what == 0 ? of.get(k).base : of.get(k).day;
    }

    int way(int k, int what) {
        List<Way> all = new ArrayList<>(now.ways);
        all.sort((v, w) -> v.comes != w.comes ? v.comes - w.comes : v.number - w.number);
        if (k < 0 || k >= all.size() || what < 0 || what > 4) {
            return -1;
        }
        Way w = all.get(k);
        return new int[] {w.kind, w.number, w.part, w.base, w.comes}[what];
    }

    int waits(int k) {
        return k >= 0 && k < now.waiting.size() ? now.waiting.get(k) : -1;
    }

    int played(int what) {
        return now.played(what);
    }

    private static long power(long of, int times) {
        long all = 1;
        for (int i = 0; i < times; i++) {
            all *= of;
        }
        return all;
    }

    private static long choose(int n, int k) {
        return k < 0 || k > n ? 0 : k == 0 ? 1 : choose(n - 1, k - 1) + choose(n - 1, k);
    }

    long out(int base, int part, int x) {
        if (!now.hasCell(base, part) || x < 0 || x > 8) {
            return -1;
        }
        Cell c = now.cells[base][part];
        if (x > c.units) {
            return 0;
        }
        return choose(c.units, x) * power(c.odds, x) * power(12 - c.odds, c.units - x) * power(12, 8 - c.units);
    }

    long lack(int base, int part, int s) {
        if (!now.hasCell(base, part) || s < 0 || s > 9) {
            return -1;
        }
        long all = 0;
        for (int x = 0; x <= 8; x++) {
            all += Math.max(0, x - s) * out(base, part, x);
        }
        return all;
    }

    private int cells() {
        return now.ships.size() * now.parts.size();
    }

    private long lackAt(int cell, int s) {
        return lack(cell / now.parts.size(), cell % now.parts.size(), s);
    }

    private int priceAt(int cell) {
        return now.parts.get(cell % now.parts.size()).price;
    }

    private long lacksOf(int[] row) {
        long all = 0;
        for (int c = 0; c < cells(); c++) {
            all += lackAt(c, row[c]);
        }
        return all;
    }

    long lacks() {
        long all = 0;
        for (int b = 0; b < now.ships.size(); b++) {
            for (int p = 0; p < now.parts.size(); p++) {
                all += lack(b, p, now.cells[b][p].stock);
            }
        }
        return all;
    }

    int sure(int base, int part, int hundredths) {
        if (!now.hasCell(base, part) || hundredths < 0 || hundredths > 100) {
            return -1;
        }
        for (int s = 0; s <= 9; s++) {
            long most = 0;
            for (int x = 0; x <= Math.min(s, 8); x++) {
                most += out(base, part, x);
            }
            if (100 * most >= hundredths * power(12, 8)) {
                return s;
            }
        }
        return -1;
    }

    /** Each buy: its cell, how many then, all it costs. */
    private List<int[]> allBuys() {
        List<int[]> all = new ArrayList<>();
        int[] row = new int[cells()];
        int cost = 0;
        while (true) {
            int best = -1;
            long bestGain = 0;
            for (int c = 0; c < cells(); c++) {
                if (row[c] < 9) {
                    long gain = lackAt(c, row[c]) - lackAt(c, row[c] + 1);
                    if (gain > 0 && (best < 0 || gain * priceAt(best) > bestGain * priceAt(c))) {
                        best = c;
                        bestGain = gain;
                    }
                }
            }
            if (best < 0) {
                return all;
            }
            row[best]++;
            cost += priceAt(best);
            all.add(new int[] {best, row[best], cost});
        }
    }

    int buys(int k, int what) {
        List<int[]> all = allBuys();
        if (k < 0 || k >= all.size() || what < 0 || what > 3) {
            return -1;
        }
        int[] one = all.get(k);
        return new int[] {one[0] / now.parts.size(), one[0] % now.parts.size(), one[1], one[2]}[what];
    }

    private int[] boughtRow(int purse) {
        int[] row = new int[cells()];
        for (int[] one : allBuys()) {
            if (one[2] > purse) {
                break;
            }
            row[one[0]] = one[1];
        }
        return row;
    }

    int bought(int purse, int what) {
        if (purse < 0 || purse > 99 || what < 0 || what > 4) {
            return -1;
        }
        int[] row = boughtRow(purse);
        int many = 0;
        int cost = 0;
        int of = 0;
        for (int c = 0; c < row.length; c++) {
            many += row[c];
            cost += row[c] * priceAt(c);
            of += c / now.parts.size() == what - 2 ? row[c] : 0;
        }
        return what == 0 ? many : what == 1 ? cost : of;
    }

    private static final class Choice {
        long lacks;
        int cost;
        int[] row;
    }

    private static boolean better(Choice a, Choice b) {
        if (b == null) {
            return true;
        }
        if (a.lacks != b.lacks) {
            return a.lacks < b.lacks;
        }
        if (a.cost != b.cost) {
            return a.cost < b.cost;
        }
        return Arrays.compare(a.row, b.row) < 0;
    }

    /** Whole rows, cell by cell from the first on, one for each sum of coins. */
    private Choice bestRow(int purse) {
        Choice[] by = new Choice[purse + 1];
        by[0] = new Choice();
        by[0].row = new int[0];
        for (int c = 0; c < cells(); c++) {
            Choice[] next = new Choice[purse + 1];
            for (int coins = 0; coins <= purse; coins++) {
                for (int s = 0; by[coins] != null && s <= 9 && coins + s * priceAt(c) <= purse; s++) {
                    Choice one = new Choice();
                    one.lacks = by[coins].lacks + lackAt(c, s);
                    one.cost = coins + s * priceAt(c);
                    one.row = Arrays.copyOf(by[coins].row, c + 1);
                    one.row[c] = s;
                    if (better(one, next[one.cost])) {
                        next[one.cost] = one;
                    }
                }
            }
            by = next;
        }
        Choice best = null;
        for (Choice one : by) {
            if (one != null && better(one, best)) {
                best = one;
            }
        }
        return best;
    }

    long lacksBy(int purse, boolean best) {
        if (purse < 0 || purse > 99) {
            return -1;
        }
        return best ? bestRow(purse).lacks : lacksOf(boughtRow(purse));
    }

    int best(int purse, int base, int part) {
        if (purse < 0 || purse > 99 || !now.hasCell(base, part)) {
            return -1;
        }
        return bestRow(purse).row[base * now.parts.size() + part];
    }

    int purseFor(int hundredths) {
        if (hundredths < 0 || hundredths > 100) {
            return -1;
        }
        long without = lacksOf(new int[cells()]);
        for (int purse = 0; purse <= 99; purse++) {
            if (bestRow(purse).lacks * 100 <= without * hundredths) {
                return purse;
            }
        }
        return -2;
    }

    int would(int days, int seed, int what) {
        if (cannot(days, 12)) {
            return -1;
        }
        State s = now.copy();
        s.run(days, seed);
        return s.played(what);
    }

    int spared(int days, int seed, int base, int part) {
        if (cannot(days, 12) || !now.hasCell(base, part)) {
            return -100000;
        }
        State s = now.copy();
        s.piece(base, part);
        s.run(days, seed);
        return would(days, seed, 5) - s.late();
    }

    int by(int days, int seed, int what, int v) {
        int[][] bounds = {{0, 1}, {0, 4}, {1, 3}};
        if (cannot(days, 12) || what < 0 || what > 2 || v < bounds[what][0] || v > bounds[what][1]) {
            return -1;
        }
        State s = now.copy();
        if (what == 0) {
            s.rule = v;
        } else if (what == 1) {
            s.keep = v;
        } else {
            s.benches = v;
            s.startBenches();
        }
        s.run(days, seed);
        return s.late();
    }

    int bestKeep(int days, int seed) {
        if (cannot(days, 12)) {
            return -1;
        }
        int best = 0;
        for (int v = 1; v <= 4; v++) {
            if (by(days, seed, 1, v) < by(days, seed, 1, best)) {
                best = v;
            }
        }
        return best;
    }

    int quiet() {
        State s = now.copy();
        while (!s.ways.isEmpty()) {
            if (s.day == 9999) {
                return -2;
            }
            s.goBy();
        }
        return s.day;
    }

    private String spelled() {
        StringBuilder t = new StringBuilder();
        t.append("benches " + now.benches + ";keep " + now.keep + ";rule " + now.rule + ";");
        for (Part p : now.parts) {
            t.append("part " + p.price + " " + p.mend + " " + p.work + ";");
        }
        for (int ship : now.ships) {
            t.append("base " + ship + ";");
        }
        for (int b = 0; b < now.ships.size(); b++) {
            for (int p = 0; p < now.parts.size(); p++) {
                Cell c = now.cells[b][p];
                if (c.units + c.odds + c.stock > 0) {
                    t.append("cell " + b + " " + p + " " + c.units + " " + c.odds + " " + c.stock + ";");
                }
            }
        }
        for (int p = 0; p < now.parts.size(); p++) {
            if (now.parts.get(p).stock > 0) {
                t.append("works " + p + " " + now.parts.get(p).stock + ";");
            }
        }
        return t.toString();
    }

    int spell(int i) {
        if (i < -1) {
            return -1;
        }
        String t = spelled();
        return i == -1 ? t.length() : i < t.length() ? t.charAt(i) : -2;
    }

    int count(int what) {
        int units = 0;
        int stocks = 0;
        for (Cell[] row : now.cells) {
            for (Cell c : row) {
                units += c.units;
                stocks += c.stock;
            }
        }
        int[] all = {now.parts.size(), now.ships.size(), now.benches, now.keep, now.rule, acts.size(), tape.size(),
            units, stocks, now.begun};
        return what >= 0 && what < all.length ? all[what] : -1;
    }
}
