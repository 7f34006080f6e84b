import java.util.List;

// Promises 9 to 49 for BOOKS and LOGS by draws, asked against the model.
public final class ModelTest {
    private static final Check CHECK = new Check("ModelTest");

    public static void main(String[] args) {
        for (int run = 0; run < 400; run++) {
            Maker maker = new Maker(run);
            String text = maker.book(maker.below(5), 1 + maker.below(16));
            Model model = new Model();
            model.readBook(text);
            SwapBook x = new SwapBook();
            CHECK.due("book " + text, Check.book(x, text), model.count());
            askChanges(x, model);
            askSets(x, model, maker);
            askOrders(x, model, maker);
            askShips(x, model, maker);
            askSeals(x, model, maker);
        }
        for (int run = 0; run < 20000; run++) {
            askFaults(new Maker(1000 + run));
        }
        CHECK.end();
    }

    private static void askChanges(SwapBook x, Model model) {
        int puts = 0;
        int couples = 0;
        int alone = 0;
        int heaviest = 0;
        for (int c = 0; c < model.count(); c++) {
            Model.Change change = model.changes.get(c);
            CHECK.due("kind", x.change(c, 0), change.kind);
            int number = change.kind == Model.NAME ? change.says : change.key;
            CHECK.due(x, "number", x.change(c, 1), number, 0);
            boolean put = change.kind == Model.PUT;
            CHECK.due(x, "says", x.change(c, 2), put ? change.says : -1, put ? 0 : 8);
            CHECK.due("thing", x.change(c, 3), model.thing(c));
            CHECK.due("level", x.change(c, 4), model.level(c));
            CHECK.due("hangs 0", x.hangs(c, 0), model.needs(c));
            CHECK.due("hangs 1", x.hangs(c, 1), model.hangsOn(c));
            CHECK.due("hangs 2", x.hangs(c, 2), model.hangingOn(c));
            puts += put ? 1 : 0;
            alone |= put && model.hangingOn(c) == 0 ? 1 << c : 0;
            if (Integer.bitCount(model.hangingOn(c)) > Integer.bitCount(model.hangingOn(heaviest))) {
                heaviest = c;
            }
            for (int d = 0; d < c; d++) {
                couples += model.wouldQuarrel(c, d) ? 1 : 0;
            }
        }
        CHECK.due("many 1", x.many(1), model.islands.size());
        CHECK.due("many 2", x.many(2), puts);
        CHECK.due("many 3", x.many(3), couples);
        CHECK.due("alone", x.alone(), alone);
        CHECK.due("heaviest", x.heaviest(), heaviest);
        if (model.count() <= 10) {
            int all = (1 << model.count()) - 1;
            CHECK.due("mostQuiet", x.mostQuiet(), Integer.bitCount(all & ~model.leastOut(all)));
        }
    }

    private static void askSets(SwapBook x, Model model, Maker maker) {
        int other = 0;
        for (int i = 0; i < 12; i++) {
            int raw = maker.below(1 << model.count());
            int set = maker.below(4) == 0 ? raw : model.closed(raw & maker.below(1 << model.count()));
            int c = maker.below(model.count());
            boolean holds = model.holds(set);
            CHECK.due("holds", x.holds(set), holds ? 1 : 0);
            CHECK.due("lacks", x.lacks(set), model.closed(set) & ~set);
            CHECK.due("out", x.out(set, c), model.out(set, c));
            CHECK.due("pick", x.pick(set, c), set | 1 << c | model.hangsOn(c));
            CHECK.due("quarrels", x.quarrels(set), model.quarrels(set));
            boolean in = (set >> c & 1) != 0;
            CHECK.due(x, "with", x.with(set, c), in ? model.with(set, c) : -1, in ? 0 : 8);
            if (!holds) {
                CHECK.due(x, "size", x.size(set), -1, 9);
                CHECK.due(x, "leastOut", x.leastOut(set), -1, 9);
                continue;
            }
            if (Integer.bitCount(set) <= 10) {
                CHECK.due("leastOut", x.leastOut(set), model.leastOut(set));
            }
            askList(x, model, set);
            int apart = model.apart(set, other);
            CHECK.due(x, "apart", x.apart(set, other), apart, apart < 0 ? 8 : 0);
            CHECK.due("like", x.like(set, other), model.like(set, other) ? 1 : 0);
            other = set;
        }
    }

    private static void askList(SwapBook x, Model model, int set) {
        List<int[]> rows = model.list(set);
        CHECK.due("size", x.size(set), rows.size());
        for (int k = 0; k < rows.size(); k++) {
            int put = rows.get(k)[0];
            CHECK.due("thing", x.thing(set, k), put);
            CHECK.due("says", x.says(set, put), rows.get(k)[1]);
            CHECK.due("key", x.key(set, put), rows.get(k)[2]);
            CHECK.due("place", x.place(set, put), k);
        }
        for (int c = 0; c < model.count(); c++) {
            if (model.placeOf(set, c) < 0) {
                CHECK.due(x, "place", x.place(set, c), -1, 8);
            }
        }
    }

    private static void askOrders(SwapBook x, Model model, Maker maker) {
        int set = model.closed(maker.below(1 << model.count()) & maker.below(1 << model.count()));
        if (Integer.bitCount(set) > 7) {
            return;
        }
        List<List<Integer>> all = model.orders(set);
        CHECK.due("orders", x.orders(set), all.size());
        CHECK.due(x, "ordered above", x.ordered(set, all.size()), -1, 5);
        askAhead(x, set, all);
        for (int i = 0; i < 10; i++) {
            int number = i == 0 ? all.size() - 1 : maker.below(all.size());
            List<Integer> order = all.get(number);
            CHECK.due("ordered", x.ordered(set, number), order.size());
            CHECK.due("number", x.number(), number);
            for (int k = 0; k < order.size(); k++) {
                CHECK.due("orderAt", x.orderAt(k), order.get(k));
                CHECK.due(x, "acts", x.acts(k), model.acts(order, k), 0);
            }
            CHECK.due("swaps", x.swaps(), walk(model, all, number));
            if (order.size() > 1) {
                int k = maker.below(order.size() - 1);
                boolean may = (model.needs(order.get(k + 1)) >> order.get(k) & 1) == 0;
                CHECK.due(x, "swap", x.swap(k), may, may ? 0 : 9);
                CHECK.due("swapped", x.orderAt(k), order.get(may ? k + 1 : k));
            }
        }
    }

    private static void askAhead(SwapBook x, int set, List<List<Integer>> all) {
        for (int a : Model.in(set)) {
            for (int b : Model.in(set)) {
                if (a != b) {
                    long ahead = all.stream().filter(o -> o.indexOf(a) < o.indexOf(b)).count();
                    CHECK.due("ahead", x.ahead(set, a, b), true);
                    CHECK.due("fraction", x.top() * all.size(), ahead * x.bottom());
                    long divisor = java.math.BigInteger.valueOf(x.top()).gcd(java.math.BigInteger.valueOf(x.bottom())).longValue();
                    CHECK.due("common divisor", divisor, 1);
                }
            }
        }
    }

    // The fewest swaps, by going all ways at once.
    private static int walk(Model model, List<List<Integer>> all, int number) {
        java.util.Map<List<Integer>, Integer> far = new java.util.HashMap<>();
        java.util.ArrayDeque<List<Integer>> next = new java.util.ArrayDeque<>();
        far.put(all.get(number), 0);
        next.add(all.get(number));
        while (!far.containsKey(all.get(0))) {
            List<Integer> order = next.remove();
            for (int k = 0; k + 1 < order.size(); k++) {
                if ((model.needs(order.get(k + 1)) >> order.get(k) & 1) == 0) {
                    List<Integer> other = new java.util.ArrayList<>(order);
                    java.util.Collections.swap(other, k, k + 1);
                    if (far.putIfAbsent(other, far.get(order) + 1) == null) {
                        next.add(other);
                    }
                }
            }
        }
        return far.get(all.get(0));
    }

    private static void askShips(SwapBook x, Model model, Maker maker) {
        if (model.islands.isEmpty()) {
            return;
        }
        for (int i = 0; i < 4; i++) {
            String text = maker.log(model, 1 + maker.below(14));
            if (text.length() > 300) {
                continue;
            }
            List<Model.Step> steps = model.readLog(text);
            CHECK.due("log " + text, Check.log(x, text), model.steps());
            int[] has = new int[4];
            for (int k = 0; k < model.islands.size(); k++) {
                has[k] = model.closed(maker.below(1 << model.count()) & maker.below(1 << model.count()));
                CHECK.due("give", x.give(k, has[k]), true);
            }
            int seed = maker.below(9970);
            int alike = 0;
            for (int k = 0; k < 30; k++) {
                Model.Sea sea = model.new Sea(has, seed + k);
                sea.run(steps);
                alike += isAlike(sea.has, model.islands.size()) ? 1 : 0;
            }
            CHECK.due("agreed", x.agreed(seed, 30), alike);
            Model.Sea sea = model.new Sea(has, seed);
            sea.run(steps);
            CHECK.due("sail " + text, x.sail(seed), sea.steps);
            long[] told = {sea.day, sea.missed, sea.came, sea.lost, sea.way.size()};
            for (int what = 0; what < 5; what++) {
                CHECK.due("sailed " + what + " " + text, x.sailed(what), told[what]);
            }
            for (int k = 0; k < model.islands.size(); k++) {
                CHECK.due("has", x.has(k), sea.has[k]);
            }
        }
    }

    private static void askSeals(SwapBook x, Model model, Maker maker) {
        if (model.count() > 8) {
            return;
        }
        for (int i = 0; i < 10; i++) {
            int raw = maker.below(1 << model.count());
            int set = maker.below(4) == 0 ? raw : model.closed(raw);
            List<Long> row = new java.util.ArrayList<>(model.sealed(set));
            int length = Math.max(0, row.size() + maker.below(5) - 2);
            int sort = 1 + maker.below(3);
            x.tray(2, sort, length);
            int due = length < row.size() ? 4 : model.holds(set) ? 0 : 9;
            CHECK.due(x, "seal", x.seal(2, set), due == 0 ? row.size() : -1, due);
            askOpen(x, model, row, length, sort);
            for (int k = 0; k < 6; k++) {
                List<Long> spoilt = new java.util.ArrayList<>(row);
                for (int times = maker.below(3); times >= 0; times--) {
                    spoilt.set(maker.below(row.size()), maker.below(24) - 3L);
                }
                askOpen(x, model, spoilt, length, sort);
            }
        }
    }

    private static void askOpen(SwapBook x, Model model, List<Long> row, int length, int sort) {
        List<Long> laid = new java.util.ArrayList<>();
        x.tray(2, sort, length);
        for (int place = 0; place < length; place++) {
            laid.add(place < row.size() ? row.get(place) : 0L);
            x.write(2, place, laid.get(place));
        }
        int due = model.opened(laid);
        CHECK.due(x, "open " + laid, x.open(2), Math.max(-1, due), due < 0 ? -due : 0);
    }

    private static boolean isAlike(int[] has, int islands) {
        for (int k = 1; k < islands; k++) {
            if (has[k] != has[0]) {
                return false;
            }
        }
        return true;
    }

    private static void askFaults(Maker maker) {
        String good = maker.book(maker.below(5), 1 + maker.below(16));
        String text = maker.spoilt(good);
        Model model = new Model();
        SwapBook x = new SwapBook();
        if (text.length() <= 900) {
            int kind = 0;
            int place = -1;
            try {
                model.readBook(text);
            } catch (Model.Fault fault) {
                kind = fault.kind;
                place = fault.place;
            }
            int told = Check.book(x, text);
            CHECK.due(x, "book " + text, told, kind == 0 ? model.count() : -1, kind == 0 ? 0 : 10);
            CHECK.due("fault(0) " + text, x.fault(0), kind);
            CHECK.due("fault(1) " + text, x.fault(1), place);
        }
        Model sound = new Model();
        sound.readBook(good);
        Check.book(x, good);
        if (!sound.islands.isEmpty()) {
            askLogFaults(x, sound, maker.spoilt(maker.log(sound, 1 + maker.below(14))));
        }
    }

    private static void askLogFaults(SwapBook x, Model model, String text) {
        if (text.length() > 300) {
            return;
        }
        int kind = 0;
        int place = -1;
        try {
            model.readLog(text);
        } catch (Model.Fault fault) {
            kind = fault.kind;
            place = fault.place;
        }
        int told = Check.log(x, text);
        CHECK.due(x, "log " + text, told, kind == 0 ? model.steps() : -1, kind == 0 ? 0 : 10);
        CHECK.due("fault(0) " + text, x.fault(0), kind);
        CHECK.due("fault(1) " + text, x.fault(1), place);
    }
}
