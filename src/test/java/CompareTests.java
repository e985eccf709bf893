import java.util.Random;

/** Runs of random calls, the same on SparesHouse and on NaiveHouse: every answer must be the same. */
public final class CompareTests {
    private static final int OBJECTS = 600;
    private static final int CALLS = 495;

    private final Random random;
    private final StringBuilder told = new StringBuilder();
    private SparesHouse house = new SparesHouse();
    private NaiveHouse naive = new NaiveHouse();
    private int wrong = 0;
    private int calls = 0;

    private CompareTests(long seed) {
        random = new Random(seed);
    }

    public static void main(String[] args) {
        int wrong = 0;
        int objects = args.length > 0 ? Integer.parseInt(args[0]) : OBJECTS;
        long first = args.length > 1 ? Long.parseLong(args[1]) : 1;
        for (long seed = first; seed < first + objects && wrong < 3; seed++) {
            CompareTests test = new CompareTests(seed);
            if (seed % 40 == 0) {
                test.playNearTheLastDay();
            } else if (seed % 40 == 1) {
                test.playFull();
            } else {
                test.play();
            }
            if (test.wrong > 0) {
                System.out.println("seed " + seed + ":\n" + test.told);
            }
            wrong += test.wrong;
        }
        System.out.println(wrong == 0 ? "CompareTests: all answers are the same" : "CompareTests: answers differ");
        if (wrong != 0) {
            System.exit(1);
        }
    }

    private void same(String call, long mine, long other) {
        calls++;
        if (wrong > 0) {
            return;
        }
        told.append(call).append(" = ").append(mine).append('\n');
        if (mine != other) {
            wrong++;
            told.append("    but naively ").append(other).append('\n');
        }
    }

    private void play() {
        if (random.nextInt(20) > 0) {
            tell(goodText());
        }
        int style = random.nextInt(4);
        while (calls < CALLS && wrong == 0) {
            int kind = random.nextInt(100);
            if (kind < 1) {
                tell(random.nextBoolean() ? goodText() : spoiled(goodText()));
            } else if (kind < 3) {
                tell(spoiled(goodText()));
            } else if (kind < (style == 0 ? 70 : 40)) {
                act();
            } else if (kind < 75) {
                ask();
            } else if (kind < 88) {
                askByOdds();
            } else {
                askWere();
            }
            if (!naive.state().keepsPieces()) {
                wrong++;
                told.append("    pieces were lost\n");
            }
        }
    }

    private void playNearTheLastDay() {
        tell(goodText());
        for (int i = 0; i < 332; i++) {
            same("pass(30)", house.pass(30), naive.pass(30));
        }
        while (calls < CALLS && wrong == 0) {
            int kind = random.nextInt(10);
            if (kind < 3) {
                act();
            } else if (kind < 4) {
                int days = random.nextInt(31);
                same("pass(" + days + ")", house.pass(days), naive.pass(days));
            } else if (kind < 6) {
                ask();
            } else {
                askWere();
            }
        }
    }

    /** As many pieces as there can be, all of them broken. */
    private void playFull() {
        StringBuilder text = new StringBuilder(line("rule", number(0, 1)));
        for (int i = 0; i < 3; i++) {
            text.append(line("part", number(1, 30), 0, number(1, 9))).append(line("base", number(1, 9)));
        }
        for (int i = 0; i < 9; i++) {
            text.append(line("cell", i / 3, i % 3, 8, number(11, 12), 9));
        }
        text.append("works 0 9;works 1 9;works 2 9;");
        tell(text.toString());
        while (calls < CALLS && wrong == 0) {
            int b = number(0, 2);
            int p = number(0, 2);
            same("breaks(" + b + ", " + p + ")", house.breaks(b, p), naive.breaks(b, p));
            if (random.nextInt(20) == 0) {
                int seed = random.nextInt();
                same("run(12, " + seed + ")", house.run(12, seed), naive.run(12, seed));
            }
            if (random.nextInt(4) == 0) {
                askWere();
                ask();
                askByOdds();
            }
            if (random.nextInt(150) == 0) {
                same("begin()", house.begin(), naive.begin());
            }
        }
    }

    // ---- texts

    private int number(int low, int high) {
        return low + random.nextInt(high - low + 1);
    }

    private String gap(boolean needed) {
        int many = random.nextInt(12) == 0 ? 1 + random.nextInt(2) : needed ? 1 : 0;
        StringBuilder text = new StringBuilder();
        for (int i = 0; i < many; i++) {
            text.append(random.nextInt(4) == 0 ? '\n' : ' ');
        }
        return text.toString();
    }

    private String line(String word, int... numbers) {
        StringBuilder text = new StringBuilder(gap(false) + word);
        for (int n : numbers) {
            text.append(gap(true));
            if (n < 10 && random.nextInt(30) == 0) {
                text.append('0');
            }
            text.append(n);
        }
        return text.append(gap(false)).append(';').toString();
    }

    private String goodText() {
        StringBuilder text = new StringBuilder();
        int parts = random.nextInt(8) == 0 ? number(0, 3) : number(1, 3);
        int bases = random.nextInt(8) == 0 ? number(0, 3) : number(1, 3);
        int[] order = new int[parts + bases];
        for (int i = 0; i < bases; i++) {
            order[i] = 1;
        }
        for (int i = 0; i < order.length; i++) {
            int j = random.nextInt(order.length);
            int kept = order[i];
            order[i] = order[j];
            order[j] = kept;
        }
        boolean sends = random.nextBoolean();
        boolean near = random.nextBoolean();
        for (int kind : order) {
            house(text);
            if (kind == 0) {
                int mend = sends || random.nextBoolean() ? 0 : number(0, 9);
                int price = random.nextInt(3) == 0 ? number(1, 30) : number(1, 6);
                text.append(line("part", price, mend, number(1, 9)));
            } else {
                text.append(line("base", near ? number(1, 2) : number(1, 9)));
            }
        }
        house(text);
        cells(text, parts, bases);
        return text.length() > 400 ? text.substring(0, 400) : text.toString();
    }

    private void house(StringBuilder text) {
        if (random.nextInt(6) == 0) {
            text.append(line("benches", number(1, 3)));
        }
        if (random.nextInt(6) == 0) {
            text.append(line("keep", number(0, 4)));
        }
        if (random.nextInt(4) == 0) {
            text.append(line("rule", number(0, 1)));
        }
    }

    private void cells(StringBuilder text, int parts, int bases) {
        boolean like = random.nextInt(4) == 0;
        int units = number(0, 8);
        int odds = number(0, 12);
        int least = random.nextInt(3) == 0 ? 0 : 5;
        for (int base = 0; base < bases; base++) {
            for (int part = 0; part < parts; part++) {
                if (random.nextInt(8) > 0) {
                    int stock = random.nextInt(3) == 0 ? number(0, 9) : number(0, 2);
                    text.append(like ? line("cell", base, part, units, odds, stock)
                        : line("cell", base, part, number(Math.min(least, 8), 8), number(0, 12), stock));
                }
            }
        }
        for (int part = 0; part < parts; part++) {
            if (random.nextInt(2) == 0) {
                text.append(line("works", part, random.nextInt(3) == 0 ? number(0, 9) : number(0, 1)));
            }
        }
        text.append(gap(false));
    }

    private String spoiled(String text) {
        StringBuilder spoilt = new StringBuilder(text);
        int times = number(1, 3);
        for (int i = 0; i < times && spoilt.length() > 0; i++) {
            int at = random.nextInt(spoilt.length());
            String signs = "0123456789 ;\nabceklprstw;;  P{,\u00e9\u0000-";
            char sign = signs.charAt(random.nextInt(signs.length()));
            int how = random.nextInt(5);
            if (how == 0) {
                spoilt.setLength(at);
            } else if (how == 1) {
                spoilt.deleteCharAt(at);
            } else if (how == 2 && spoilt.length() < 400) {
                spoilt.insert(at, sign);
            } else if (how == 3 && spoilt.length() < 390) {
                String[] more = {"part 1 1 1;", "base 1;", "cell 2 2 1 1 1;", "works 2 1;"};
                spoilt.append(more[random.nextInt(more.length)]);
            } else {
                spoilt.setCharAt(at, sign);
            }
        }
        return spoilt.toString();
    }

    private void tell(String text) {
        int rest = naive.count(6);
        if (rest > 0) {
            same("back(" + rest + ")", house.back(rest), naive.back(rest));
        }
        told.append('[').append(text).append("]\n");
        int many = (text.length() + 19) / 20;
        for (int i = 0; i < many; i++) {
            int[] five = new int[5];
            for (int j = 0; j < 20; j++) {
                int at = i * 20 + j;
                int sign = at < text.length() ? text.charAt(at) & 255 : 0;
                five[j / 4] |= sign << (24 - j % 4 * 8);
            }
            same("feed", house.feed(five[0], five[1], five[2], five[3], five[4]),
                naive.feed(five[0], five[1], five[2], five[3], five[4]));
        }
        int over = many * 20 - text.length();
        same("back(" + over + ")", house.back(over), naive.back(over));
        same("text()", house.text(), naive.text());
    }

    // ---- calls

    /** Mostly within the bounds, at times just out of them or far away. */
    private int near(int low, int high) {
        int kind = random.nextInt(60);
        if (kind == 0) {
            return random.nextInt();
        }
        if (kind == 1) {
            return random.nextBoolean() ? Integer.MAX_VALUE : Integer.MIN_VALUE;
        }
        return kind < 7 ? number(low - 1, high + 1) : number(low, high);
    }

    private int someBase() {
        return near(0, Math.max(naive.count(1) - 1, 0));
    }

    private int somePart() {
        return near(0, Math.max(naive.count(0) - 1, 0));
    }

    private void act() {
        int b = someBase();
        int p = somePart();
        String cell = "(" + b + ", " + p + ")";
        switch (random.nextInt(24)) {
            case 0: case 1: case 2: case 3: case 4: case 5:
                same("breaks" + cell, house.breaks(b, p), naive.breaks(b, p));
                break;
            case 6: case 7: case 8: case 9: {
                int days = random.nextInt(3) == 0 ? near(1, 30) : near(1, 3);
                same("pass(" + days + ")", house.pass(days), naive.pass(days));
                break;
            }
            case 10: case 11: case 12: {
                int days = random.nextInt(3) == 0 ? near(1, 30) : near(1, 4);
                int seed = random.nextInt();
                same("run(" + days + ", " + seed + ")", house.run(days, seed), naive.run(days, seed));
                break;
            }
            case 13:
                same("buy" + cell, house.buy(b, p), naive.buy(b, p));
                break;
            case 14:
                same("sell" + cell, house.sell(b, p), naive.sell(b, p));
                break;
            case 15:
                same("supply(" + p + ")", house.supply(p), naive.supply(p));
                break;
            case 16: {
                int what = near(0, 2);
                int v = what == 0 ? near(1, 30) : near(0, 9);
                same("set(" + p + ", " + what + ", " + v + ")", house.set(p, what, v), naive.set(p, what, v));
                break;
            }
            case 17: {
                int v = near(0, 12);
                same("odds" + cell + v, house.odds(b, p, v), naive.odds(b, p, v));
                break;
            }
            case 18: {
                int n = near(1, 3);
                same("benches(" + n + ")", house.benches(n), naive.benches(n));
                break;
            }
            case 19: {
                int n = near(0, 4);
                same("keep(" + n + ")", house.keep(n), naive.keep(n));
                break;
            }
            case 20:
                same("rule()", house.rule(), naive.rule());
                break;
            case 21:
                if (random.nextInt(4) == 0) {
                    same("begin()", house.begin(), naive.begin());
                }
                break;
            default:
                for (int i = random.nextInt(random.nextInt(8) == 0 ? 14 : 3); i >= 0; i--) {
                    same("undo()", house.undo(), naive.undo());
                }
                break;
        }
    }

    private void ask() {
        int b = someBase();
        int p = somePart();
        int k = near(0, 6);
        switch (random.nextInt(11)) {
            case 0: {
                int what = near(0, 8);
                same("part(" + p + ", " + what + ")", house.part(p, what), naive.part(p, what));
                break;
            }
            case 1: {
                int what = near(0, 4);
                same("base(" + b + ", " + what + ")", house.base(b, what), naive.base(b, what));
                break;
            }
            case 2: {
                int what = near(0, 8);
                same("cell(" + b + ", " + p + ", " + what + ")", house.cell(b, p, what), naive.cell(b, p, what));
                break;
            }
            case 3: {
                int what = near(0, 3);
                same("want(" + k + ", " + what + ")", house.want(k, what), naive.want(k, what));
                break;
            }
            case 4: {
                int what = near(0, 1);
                same("call(" + p + ", " + k + ", " + what + ")", house.call(p, k, what), naive.call(p, k, what));
                break;
            }
            case 5: case 6: {
                int what = near(0, 4);
                int at = near(0, Math.max(0, naive.played(9) - 1));
                same("way(" + at + ", " + what + ")", house.way(at, what), naive.way(at, what));
                break;
            }
            case 7:
                same("waits(" + k + ")", house.waits(k), naive.waits(k));
                break;
            case 8: {
                int what = near(0, 10);
                same("played(" + what + ")", house.played(what), naive.played(what));
                break;
            }
            case 9: {
                int i = random.nextInt(5) == 0 ? -1 : near(0, naive.spell(-1));
                same("spell(" + i + ")", house.spell(i), naive.spell(i));
                break;
            }
            default: {
                int what = near(0, 9);
                same("count(" + what + ")", house.count(what), naive.count(what));
                break;
            }
        }
    }

    private void askByOdds() {
        int b = someBase();
        int p = somePart();
        int purse = near(0, 99);
        switch (random.nextInt(9)) {
            case 0: {
                int x = near(0, 8);
                same("out(" + b + ", " + p + ", " + x + ")", house.out(b, p, x), naive.out(b, p, x));
                break;
            }
            case 1: {
                int s = near(0, 9);
                same("lack(" + b + ", " + p + ", " + s + ")", house.lack(b, p, s), naive.lack(b, p, s));
                break;
            }
            case 2:
                same("lacks()", house.lacks(), naive.lacks());
                break;
            case 3: {
                int h = near(0, 100);
                same("sure(" + b + ", " + p + ", " + h + ")", house.sure(b, p, h), naive.sure(b, p, h));
                break;
            }
            case 4: {
                int k = near(0, 40);
                int what = near(0, 3);
                same("buys(" + k + ", " + what + ")", house.buys(k, what), naive.buys(k, what));
                break;
            }
            case 5: {
                int what = near(0, 4);
                same("bought(" + purse + ", " + what + ")", house.bought(purse, what), naive.bought(purse, what));
                break;
            }
            case 6: {
                boolean best = random.nextBoolean();
                same("lacksBy(" + purse + ", " + best + ")", house.lacksBy(purse, best), naive.lacksBy(purse, best));
                break;
            }
            case 7:
                same("best(" + purse + ", " + b + ", " + p + ")", house.best(purse, b, p), naive.best(purse, b, p));
                break;
            default: {
                if (random.nextInt(6) == 0) {
                    int h = near(0, 100);
                    same("purseFor(" + h + ")", house.purseFor(h), naive.purseFor(h));
                }
                break;
            }
        }
    }

    private void askWere() {
        int b = someBase();
        int p = somePart();
        int days = near(1, 12);
        int seed = random.nextInt();
        String run = "(" + days + ", " + seed + ", ";
        switch (random.nextInt(6)) {
            case 0: {
                int what = near(0, 10);
                same("would" + run + what + ")", house.would(days, seed, what), naive.would(days, seed, what));
                break;
            }
            case 1:
                same("spared" + run + b + ", " + p + ")", house.spared(days, seed, b, p), naive.spared(days, seed, b, p));
                break;
            case 2: case 3: {
                int what = near(0, 2);
                int v = near(0, 4);
                same("by" + run + what + ", " + v + ")", house.by(days, seed, what, v), naive.by(days, seed, what, v));
                break;
            }
            case 4:
                same("bestKeep" + run + ")", house.bestKeep(days, seed), naive.bestKeep(days, seed));
                break;
            default:
                same("quiet()", house.quiet(), naive.quiet());
                break;
        }
    }
}
