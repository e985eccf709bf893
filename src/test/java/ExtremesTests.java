import java.util.ArrayList;
import java.util.List;

/** Every call with extreme arguments, in houses of several kinds: it ends, throws nothing, and tells what NaiveHouse tells. */
public final class ExtremesTests extends Checks {
    private static final int[] MANY = {DEEP, DEEP + 1, -1000000, -100, -4, -2, -1, 0, 1, 2, 3, 4, 8, 9, 10, 12, 13, 30, 31,
        99, 100, 101, 256, 65536, 1 << 30, FAR - 1, FAR};
    private static final int[] SOME = {DEEP, -4, -1, 0, 1, 2, 3, 4, 8, 9, 10, 12, 13, 31, 1 << 30, FAR};
    private static final int[] FEW = {DEEP, -1, 0, 1, 2, 3, 12, 13, FAR};
    private static final int CALLS = 440;

    private interface Mine {
        long of(SparesHouse house, int[] a);
    }

    private interface Naive {
        long of(NaiveHouse house, int[] a);
    }

    private static final class Method {
        final String name;
        final int arguments;
        final Mine mine;
        final Naive naive;

        Method(String name, int arguments, Mine mine, Naive naive) {
            this.name = name;
            this.arguments = arguments;
            this.mine = mine;
            this.naive = naive;
        }
    }

    public static void main(String[] args) {
        for (Method one : methods()) {
            for (int kind = 0; kind < 4; kind++) {
                callAll(one, kind);
            }
        }
        end("ExtremesTests");
    }

    private static List<Method> methods() {
        List<Method> all = new ArrayList<>();
        acts(all);
        asked(all);
        weighed(all);
        return all;
    }

    private static void acts(List<Method> all) {
        all.add(new Method("back", 1, (h, a) -> h.back(a[0]), (n, a) -> n.back(a[0])));
        all.add(new Method("breaks", 2, (h, a) -> h.breaks(a[0], a[1]), (n, a) -> n.breaks(a[0], a[1])));
        all.add(new Method("pass", 1, (h, a) -> h.pass(a[0]), (n, a) -> n.pass(a[0])));
        all.add(new Method("run", 2, (h, a) -> h.run(a[0], a[1]), (n, a) -> n.run(a[0], a[1])));
        all.add(new Method("buy", 2, (h, a) -> h.buy(a[0], a[1]), (n, a) -> n.buy(a[0], a[1])));
        all.add(new Method("sell", 2, (h, a) -> h.sell(a[0], a[1]), (n, a) -> n.sell(a[0], a[1])));
        all.add(new Method("supply", 1, (h, a) -> h.supply(a[0]), (n, a) -> n.supply(a[0])));
        all.add(new Method("set", 3, (h, a) -> h.set(a[0], a[1], a[2]), (n, a) -> n.set(a[0], a[1], a[2])));
        all.add(new Method("odds", 3, (h, a) -> h.odds(a[0], a[1], a[2]), (n, a) -> n.odds(a[0], a[1], a[2])));
        all.add(new Method("benches", 1, (h, a) -> h.benches(a[0]), (n, a) -> n.benches(a[0])));
        all.add(new Method("keep", 1, (h, a) -> h.keep(a[0]), (n, a) -> n.keep(a[0])));
    }

    private static void asked(List<Method> all) {
        all.add(new Method("part", 2, (h, a) -> h.part(a[0], a[1]), (n, a) -> n.part(a[0], a[1])));
        all.add(new Method("base", 2, (h, a) -> h.base(a[0], a[1]), (n, a) -> n.base(a[0], a[1])));
        all.add(new Method("cell", 3, (h, a) -> h.cell(a[0], a[1], a[2]), (n, a) -> n.cell(a[0], a[1], a[2])));
        all.add(new Method("want", 2, (h, a) -> h.want(a[0], a[1]), (n, a) -> n.want(a[0], a[1])));
        all.add(new Method("call", 3, (h, a) -> h.call(a[0], a[1], a[2]), (n, a) -> n.call(a[0], a[1], a[2])));
        all.add(new Method("way", 2, (h, a) -> h.way(a[0], a[1]), (n, a) -> n.way(a[0], a[1])));
        all.add(new Method("waits", 1, (h, a) -> h.waits(a[0]), (n, a) -> n.waits(a[0])));
        all.add(new Method("played", 1, (h, a) -> h.played(a[0]), (n, a) -> n.played(a[0])));
        all.add(new Method("spell", 1, (h, a) -> h.spell(a[0]), (n, a) -> n.spell(a[0])));
        all.add(new Method("count", 1, (h, a) -> h.count(a[0]), (n, a) -> n.count(a[0])));
    }

    private static void weighed(List<Method> all) {
        all.add(new Method("out", 3, (h, a) -> h.out(a[0], a[1], a[2]), (n, a) -> n.out(a[0], a[1], a[2])));
        all.add(new Method("lack", 3, (h, a) -> h.lack(a[0], a[1], a[2]), (n, a) -> n.lack(a[0], a[1], a[2])));
        all.add(new Method("sure", 3, (h, a) -> h.sure(a[0], a[1], a[2]), (n, a) -> n.sure(a[0], a[1], a[2])));
        all.add(new Method("buys", 2, (h, a) -> h.buys(a[0], a[1]), (n, a) -> n.buys(a[0], a[1])));
        all.add(new Method("bought", 2, (h, a) -> h.bought(a[0], a[1]), (n, a) -> n.bought(a[0], a[1])));
        all.add(new Method("lacksBy false", 1, (h, a) -> h.lacksBy(a[0], false), (n, a) -> n.lacksBy(a[0], false)));
        all.add(new Method("lacksBy true", 1, (h, a) -> h.lacksBy(a[0], true), (n, a) -> n.lacksBy(a[0], true)));
        all.add(new Method("best", 3, (h, a) -> h.best(a[0], a[1], a[2]), (n, a) -> n.best(a[0], a[1], a[2])));
        all.add(new Method("purseFor", 1, (h, a) -> h.purseFor(a[0]), (n, a) -> n.purseFor(a[0])));
        all.add(new Method("would", 3, (h, a) -> h.would(a[0], a[1], a[2]), (n, a) -> n.would(a[0], a[1], a[2])));
        all.add(new Method("spared", 4, (h, a) -> h.spared(a[0], a[1], a[2], a[3]),
            (n, a) -> n.spared(a[0], a[1], a[2], a[3])));
        all.add(new Method("by", 4, (h, a) -> h.by(a[0], a[1], a[2], a[3]), (n, a) -> n.by(a[0], a[1], a[2], a[3])));
        all.add(new Method("bestKeep", 2, (h, a) -> h.bestKeep(a[0], a[1]), (n, a) -> n.bestKeep(a[0], a[1])));
    }

    private static int[] values(int arguments) {
        return arguments <= 2 ? MANY : arguments == 3 ? SOME : FEW;
    }

    private static void callAll(Method one, int kind) {
        says(0, one.name + " in a house of kind " + kind);
        int[] values = values(one.arguments);
        int all = 1;
        for (int i = 0; i < one.arguments; i++) {
            all *= values.length;
        }
        SparesHouse house = null;
        NaiveHouse naive = null;
        for (int n = 0; n < all; n++) {
            if (n % CALLS == 0) {
                house = new SparesHouse();
                naive = new NaiveHouse();
                prepare(house, naive, kind);
            }
            int[] a = new int[one.arguments];
            int rest = n;
            StringBuilder told = new StringBuilder(one.name);
            for (int i = 0; i < a.length; i++) {
                a[i] = values[rest % values.length];
                rest /= values.length;
                told.append(' ').append(a[i]);
            }
            due(told.toString(), one.mine.of(house, a), one.naive.of(naive, a));
        }
    }

    /** Nothing told; parts without bases; a house where much happens; one with all of nine cells. */
    private static void prepare(SparesHouse house, NaiveHouse naive, int kind) {
        String[] texts = {"", "part 1 0 1;part 30 9 9;part 2 2 2;works 2 9;",
            "keep 1;rule 1;part 4 0 9;part 7 3 2;base 2;base 1;cell 0 0 3 5 1;cell 0 1 2 4 0;cell 1 0 2 3 2;cell 1 1 8 12 9;"
                + "works 0 1;",
            "benches 3;part 1 0 9;part 30 9 1;part 2 0 1;base 9;base 1;base 5;cell 0 0 8 12 9;cell 0 1 8 12 9;cell 1 2 8 6 0;"
                + "cell 2 0 3 12 1;cell 2 1 1 1 1;cell 2 2 8 12 0;works 2 9;"};
        String text = texts[kind];
        for (int i = 0; i < text.length(); i += 20) {
            int[] five = new int[5];
            for (int j = 0; j < 20; j++) {
                five[j / 4] |= (i + j < text.length() ? text.charAt(i + j) : ' ') << (24 - j % 4 * 8);
            }
            house.feed(five[0], five[1], five[2], five[3], five[4]);
            naive.feed(five[0], five[1], five[2], five[3], five[4]);
        }
        due("text()", house.text(), naive.text());
        for (int i = 0; i < 18; i++) {
            due("breaks", house.breaks(i / 3 % 3, i % 3), naive.breaks(i / 3 % 3, i % 3));
        }
        due("run", house.run(3, kind), naive.run(3, kind));
        due("feed", house.feed(kind, kind, kind, kind, kind), naive.feed(kind, kind, kind, kind, kind));
    }
}
