import java.util.ArrayList;
import java.util.HashMap;
import java.util.HashSet;
import java.util.List;
import java.util.Map;
import java.util.Set;
import java.util.TreeSet;
import java.util.regex.Matcher;
import java.util.regex.Pattern;

// The document's words once more, in their plainest and slowest form, to ask the class against.
final class Model {
    static final int PUT = 0;
    static final int TAKE = 1;
    static final int NAME = 2;
    static final int MOVE = 3;
    static final int SETTLE = 4;

    static final class Fault extends RuntimeException {
        private static final long serialVersionUID = 1L;
        final int kind;
        final int place;

        Fault(int kind, int place) {
            this.kind = kind;
            this.place = place;
        }
    }

    static final class Change {
        int kind;
        int key = -1;
        int says = -1;
        int of = -1;
        int not = -1;
        Set<Integer> after = new TreeSet<>();
    }

    record Token(String text, int place, char sort) { }

    static final class Step {
        String word;
        String test = "";
        String first = "";
        String second = "";
        int number = 0;
        boolean twice = false;
        List<Step> inside = new ArrayList<>();
    }

    static final Set<String> KEYWORDS = Set.of("island", "put", "key", "says", "take", "of", "name", "move", "settle",
        "not", "after", "make", "at", "ship", "to", "late", "twice", "out", "pick", "when", "has", "quiet", "day",
        "draw", "wait", "loop", "end", "stop");

    final List<String> islands = new ArrayList<>();
    final List<Change> changes = new ArrayList<>();
    final Map<String, Integer> names = new HashMap<>();

    // ---- texts

    private List<Token> tokens;
    private int at;

    private void split(String text) {
        tokens = new ArrayList<>();
        at = 0;
        Matcher m = Pattern.compile("([a-z]+)|([0-9]+)|(;)|([\\n ]+)|([\\s\\S])").matcher(text);
        while (m.find()) {
            if (m.group(4) != null) {
                continue;
            }
            char sort = m.group(1) != null ? 'w' : m.group(2) != null ? 'n' : m.group(3) != null ? ';' : '?';
            if (sort == 'n' && m.group().length() > 4) {
                sort = '?';
            }
            tokens.add(new Token(m.group(), m.start(), sort));
        }
        tokens.add(new Token("", text.length(), '.'));
    }

    private Token here() {
        Token t = tokens.get(at);
        if (t.sort == '?') {
            throw new Fault(1, t.place);
        }
        return t;
    }

    private Token pass() {
        Token t = here();
        at++;
        return t;
    }

    private boolean isHere(String word) {
        return here().text.equals(word);
    }

    private void expect(String word) {
        if (!isHere(word)) {
            throw new Fault(2, here().place);
        }
        at++;
    }

    private Token passName() {
        Token t = here();
        if (t.sort != 'w' || KEYWORDS.contains(t.text) || t.text.length() > 8) {
            throw new Fault(2, t.place);
        }
        return pass();
    }

    private int passNumber(int least, int most) {
        Token t = here();
        if (t.sort != 'n') {
            throw new Fault(2, t.place);
        }
        int n = Integer.parseInt(t.text);
        if (n < least || n > most) {
            throw new Fault(4, t.place);
        }
        at++;
        return n;
    }

    private String passNew() {
        Token t = passName();
        if (names.containsKey(t.text) || islands.contains(t.text)) {
            throw new Fault(3, t.place);
        }
        return t.text;
    }

    private int passTold() {
        Token t = passName();
        if (!names.containsKey(t.text)) {
            throw new Fault(3, t.place);
        }
        return names.get(t.text);
    }

    void readBook(String text) {
        split(text);
        while (here().sort != '.') {
            Token t = here();
            if (t.text.equals("island")) {
                if (islands.size() == 4) {
                    throw new Fault(6, t.place);
                }
                at++;
                String name = passNew();
                expect(";");
                islands.add(name);
                continue;
            }
            int kind = List.of("put", "take", "name", "move", "settle").indexOf(t.text);
            if (kind < 0) {
                throw new Fault(2, t.place);
            }
            if (changes.size() == 16) {
                throw new Fault(6, t.place);
            }
            at++;
            readChange(kind);
        }
    }

    private void readChange(int kind) {
        String name = passNew();
        Change c = new Change();
        c.kind = kind;
        if (kind == PUT) {
            expect("key");
            c.key = passNumber(0, 9999);
            expect("says");
            c.says = passNumber(0, 9999);
        } else {
            expect("of");
            int place = here().place;
            c.of = passTold();
            int of = changes.get(c.of).kind;
            if (kind != SETTLE && (of == TAKE || of == SETTLE) || kind == SETTLE && (of == PUT || of == SETTLE)) {
                throw new Fault(5, place);
            }
        }
        if (kind == NAME) {
            expect("says");
            c.says = passNumber(0, 9999);
        } else if (kind == MOVE) {
            expect("key");
            c.key = passNumber(0, 9999);
        } else if (kind == SETTLE) {
            expect("not");
            int place = here().place;
            c.not = passTold();
            if (c.not == c.of || !wouldQuarrel(c.of, c.not)) {
                throw new Fault(5, place);
            }
        }
        if (isHere("after")) {
            at++;
            do {
                int place = here().place;
                if (!c.after.add(passTold())) {
                    throw new Fault(5, place);
                }
            } while (!isHere(";"));
        }
        expect(";");
        names.put(name, changes.size());
        changes.add(c);
    }

    private int stepCount;

    int steps() {
        return stepCount;
    }

    List<Step> readLog(String text) {
        split(text);
        stepCount = 0;
        List<Step> steps = readSteps(0);
        if (here().sort != '.') {
            throw new Fault(2, here().place);
        }
        return steps;
    }

    private List<Step> readSteps(int depth) {
        List<Step> steps = new ArrayList<>();
        while (here().sort != '.' && !isHere("end")) {
            Token t = here();
            if (!List.of("make", "ship", "out", "pick", "wait", "draw", "when", "loop", "stop").contains(t.text)) {
                throw new Fault(2, t.place);
            }
            if (stepCount == 30) {
                throw new Fault(6, t.place);
            }
            stepCount++;
            boolean block = t.text.equals("when") || t.text.equals("loop");
            if (block && depth == 3) {
                throw new Fault(7, t.place);
            }
            at++;
            Step s = new Step();
            s.word = t.text;
            readStep(s);
            expect(";");
            if (block) {
                s.inside = readSteps(depth + 1);
                expect("end");
                expect(";");
            }
            steps.add(s);
        }
        return steps;
    }

    private void readStep(Step s) {
        switch (s.word) {
            case "make", "out", "pick" -> {
                s.first = passKnown(names.keySet());
                expect("at");
                s.second = passKnown(islands);
            }
            case "ship" -> {
                s.first = passKnown(islands);
                expect("to");
                s.second = passKnown(islands);
                if (isHere("late")) {
                    at++;
                    s.number = passNumber(0, 9);
                }
                if (isHere("twice")) {
                    at++;
                    s.twice = true;
                }
            }
            case "wait", "loop" -> s.number = passNumber(1, 99);
            case "draw" -> s.number = passNumber(0, 16);
            case "when" -> {
                s.test = here().text;
                switch (s.test) {
                    case "has" -> {
                        at++;
                        s.first = passKnown(islands);
                        s.second = passKnown(names.keySet());
                    }
                    case "quiet" -> {
                        at++;
                        s.first = passKnown(islands);
                    }
                    case "day" -> {
                        at++;
                        s.number = passNumber(0, 999);
                    }
                    default -> throw new Fault(2, here().place);
                }
            }
            default -> { }
        }
    }

    private String passKnown(java.util.Collection<String> known) {
        Token t = passName();
        if (!known.contains(t.text)) {
            throw new Fault(3, t.place);
        }
        return t.text;
    }

    // ---- what hangs on what

    int count() {
        return changes.size();
    }

    int needs(int c) {
        Change x = changes.get(c);
        int set = 0;
        if (x.of >= 0) {
            set |= 1 << x.of;
        }
        if (x.not >= 0) {
            set |= 1 << x.not;
        }
        for (int a : x.after) {
            set |= 1 << a;
        }
        return set;
    }

    int hangsOn(int c) {
        int set = needs(c);
        for (int d = 0; d < c; d++) {
            if ((needs(c) >> d & 1) != 0) {
                set |= hangsOn(d);
            }
        }
        return set;
    }

    boolean hangs(int c, int on) {
        return (hangsOn(c) >> on & 1) != 0;
    }

    int hangingOn(int c) {
        int set = 0;
        for (int d = 0; d < count(); d++) {
            if (hangs(d, c)) {
                set |= 1 << d;
            }
        }
        return set;
    }

    int thing(int c) {
        return changes.get(c).kind == PUT ? c : thing(changes.get(c).of);
    }

    int level(int c) {
        int level = 0;
        for (int d : in(needs(c))) {
            level = Math.max(level, 1 + level(d));
        }
        return level;
    }

    static List<Integer> in(int set) {
        List<Integer> list = new ArrayList<>();
        for (int c = 0; c < 16; c++) {
            if ((set >> c & 1) != 0) {
                list.add(c);
            }
        }
        return list;
    }

    int closed(int set) {
        int all = set;
        for (int c : in(set)) {
            all |= hangsOn(c);
        }
        return all;
    }

    boolean holds(int set) {
        return closed(set) == set;
    }

    int out(int set, int c) {
        int left = set & ~(1 << c);
        for (int d : in(set)) {
            if (hangs(d, c)) {
                left &= ~(1 << d);
            }
        }
        return left;
    }

    // ---- quarrels

    boolean wouldQuarrel(int a, int b) {
        if (a == b || thing(a) != thing(b) || hangs(a, b) || hangs(b, a)) {
            return false;
        }
        Set<Integer> kinds = new HashSet<>(List.of(changes.get(a).kind));
        kinds.add(changes.get(b).kind);
        return kinds.equals(Set.of(NAME)) || kinds.equals(Set.of(MOVE)) || kinds.equals(Set.of(TAKE, NAME))
            || kinds.equals(Set.of(TAKE, MOVE));
    }

    boolean quarrel(int set, int a, int b) {
        if ((set >> a & 1) == 0 || (set >> b & 1) == 0 || !wouldQuarrel(a, b)) {
            return false;
        }
        for (int s : in(set)) {
            Change x = changes.get(s);
            if (x.kind == SETTLE && (x.of == a && x.not == b || x.of == b && x.not == a)) {
                return false;
            }
        }
        return true;
    }

    int with(int set, int a) {
        int foes = 0;
        for (int b : in(set)) {
            if (quarrel(set, a, b)) {
                foes |= 1 << b;
            }
        }
        return foes;
    }

    int quarrels(int set) {
        int n = 0;
        for (int a : in(set)) {
            for (int b : in(set)) {
                if (a < b && quarrel(set, a, b)) {
                    n++;
                }
            }
        }
        return n;
    }

    int leastOut(int set) {
        int best = set;
        for (int out = set; ; out = (out - 1) & set) {
            int more = Integer.bitCount(out) - Integer.bitCount(best);
            if ((more < 0 || more == 0 && out < best) && holds(set & ~out) && quarrels(set & ~out) == 0) {
                best = out;
            }
            if (out == 0) {
                return best;
            }
        }
    }

    // ---- lists

    boolean leftOut(int set, int c) {
        for (int s : in(set)) {
            if (changes.get(s).kind == SETTLE && changes.get(s).not == c) {
                return true;
            }
        }
        return false;
    }

    boolean gone(int set, int put) {
        for (int t : in(set)) {
            if (changes.get(t).kind == TAKE && thing(t) == put && with(set, t) == 0 && !leftOut(set, t)) {
                return true;
            }
        }
        return false;
    }

    private int value(int c, int kind) {
        return kind == NAME ? changes.get(c).says : changes.get(c).key;
    }

    int told(int set, int put, int kind) {
        List<Integer> those = new ArrayList<>();
        for (int c : in(set)) {
            if (changes.get(c).kind == kind && thing(c) == put && !leftOut(set, c)) {
                those.add(c);
            }
        }
        List<Integer> heads = new ArrayList<>();
        for (int c : those) {
            if (those.stream().noneMatch(d -> hangs(d, c))) {
                heads.add(c);
            }
        }
        if (heads.isEmpty()) {
            return value(put, kind);
        }
        if (heads.size() == 1) {
            return value(heads.get(0), kind);
        }
        int last = -1;
        those.add(put);
        for (int c : those) {
            if (c > last && heads.stream().allMatch(h -> hangs(h, c))) {
                last = c;
            }
        }
        return value(last, kind);
    }

    // Each row: the PUT, what it SAYS, its KEY.
    List<int[]> list(int set) {
        List<int[]> rows = new ArrayList<>();
        for (int c : in(set)) {
            if (changes.get(c).kind == PUT && !gone(set, c)) {
                rows.add(new int[] {c, told(set, c, NAME), told(set, c, MOVE)});
            }
        }
        rows.sort((p, q) -> p[2] != q[2] ? p[2] - q[2] : p[0] - q[0]);
        return rows;
    }

    int placeOf(int set, int put) {
        List<int[]> rows = list(set);
        for (int k = 0; k < rows.size(); k++) {
            if (rows.get(k)[0] == put) {
                return k;
            }
        }
        return -1;
    }

    int apart(int a, int b) {
        List<int[]> p = list(a);
        List<int[]> q = list(b);
        for (int k = 0; k < Math.max(p.size(), q.size()); k++) {
            if (k >= p.size() || k >= q.size() || p.get(k)[0] != q.get(k)[0] || p.get(k)[1] != q.get(k)[1]) {
                return k;
            }
        }
        return -1;
    }

    boolean like(int a, int b) {
        List<int[]> p = list(a);
        List<int[]> q = list(b);
        if (p.size() != q.size()) {
            return false;
        }
        for (int k = 0; k < p.size(); k++) {
            if (!java.util.Arrays.equals(p.get(k), q.get(k))) {
                return false;
            }
        }
        for (int i = 0; i < count(); i++) {
            for (int j = 0; j < i; j++) {
                if (quarrel(a, i, j) != quarrel(b, i, j)) {
                    return false;
                }
            }
        }
        return true;
    }

    // ---- orders

    // All ORDERS of a SET, by their numbers.
    List<List<Integer>> orders(int set) {
        List<List<Integer>> all = new ArrayList<>();
        collect(set, 0, new ArrayList<>(), all);
        return all;
    }

    private void collect(int set, int placed, List<Integer> row, List<List<Integer>> all) {
        if (placed == set) {
            all.add(new ArrayList<>(row));
            return;
        }
        for (int c : in(set & ~placed)) {
            if ((hangsOn(c) & ~placed) == 0) {
                row.add(c);
                collect(set, placed | 1 << c, row, all);
                row.remove(row.size() - 1);
            }
        }
    }

    int acts(List<Integer> order, int k) {
        int ahead = 0;
        for (int i = 0; i < k; i++) {
            ahead |= 1 << order.get(i);
        }
        int c = order.get(k);
        return switch (changes.get(c).kind) {
            case PUT -> placeOf(ahead | 1 << c, c);
            case SETTLE -> -1;
            default -> placeOf(ahead, thing(c));
        };
    }

    // ---- sealed rows

    List<Long> sealed(int set) {
        List<Long> row = new ArrayList<>();
        row.add(1L);
        row.add((long) Integer.bitCount(set));
        for (int c : in(set)) {
            row.add(changes.get(c).kind + 5L * c);
        }
        row.add(row.stream().mapToLong(v -> v).sum() % 251);
        return row;
    }

    // The SET that a row has sealed, or how the call fails, below 0.
    int opened(List<Long> row) {
        if (row.size() < 3) {
            return -4;
        }
        if (row.get(0) != 1 || row.get(1) < 0 || row.get(1) > 16) {
            return -9;
        }
        if (row.size() < row.get(1) + 3) {
            return -4;
        }
        for (int set = 0; set < 1 << count(); set++) {
            List<Long> seal = sealed(set);
            if (seal.size() <= row.size() && seal.equals(row.subList(0, seal.size())) && holds(set)) {
                return set;
            }
        }
        return -9;
    }

    // ---- ships

    record Cargo(int set, int to, int due, int ship) { }

    final class Sea {
        final int[] has;
        int s;
        int day = 0;
        int missed = 0;
        int came = 0;
        int lost = 0;
        int steps = 0;
        int ships = 0;
        boolean over = false;
        List<Cargo> way = new ArrayList<>();

        Sea(int[] has, int seed) {
            this.has = has.clone();
            this.s = seed;
        }

        void run(List<Step> list) {
            for (Step x : list) {
                if (over) {
                    return;
                }
                if (steps == 300) {
                    over = true;
                    return;
                }
                steps++;
                step(x);
            }
        }

        private void step(Step x) {
            switch (x.word) {
                case "stop" -> over = true;
                case "loop" -> {
                    for (int i = 0; i < x.number && !over; i++) {
                        run(x.inside);
                    }
                }
                case "when" -> {
                    if (isSo(x)) {
                        run(x.inside);
                    }
                }
                case "wait" -> {
                    for (int i = 0; i < x.number; i++) {
                        day++;
                        comeDue();
                    }
                }
                case "draw" -> draw(x.number);
                case "ship" -> ship(x);
                default -> alter(x.word, names.get(x.first), islands.indexOf(x.second));
            }
        }

        private boolean isSo(Step x) {
            return switch (x.test) {
                case "has" -> (has[islands.indexOf(x.first)] >> names.get(x.second) & 1) != 0;
                case "quiet" -> quarrels(has[islands.indexOf(x.first)]) == 0;
                default -> day >= x.number;
            };
        }

        private void comeDue() {
            List<Cargo> left = new ArrayList<>();
            for (Cargo c : way) {
                if (c.due == day) {
                    has[c.to] |= c.set;
                    came++;
                } else {
                    left.add(c);
                }
            }
            way = left;
        }

        private void draw(int n) {
            s = (s * 2749 + 9733) % 65536;
            if (s / 8 % 16 < n && !way.isEmpty()) {
                int latest = way.stream().mapToInt(Cargo::ship).max().getAsInt();
                int ahead = way.size();
                way.removeIf(c -> c.ship == latest);
                lost += ahead - way.size();
            }
        }

        private void ship(Step x) {
            int from = islands.indexOf(x.first);
            int to = islands.indexOf(x.second);
            int more = (x.number > 0 ? 1 : 0) + (x.twice ? 1 : 0);
            if (from == to || way.size() + more > 20) {
                missed++;
                return;
            }
            ships++;
            int load = has[from];
            if (x.number == 0) {
                has[to] |= load;
                came++;
            } else {
                way.add(new Cargo(load, to, day + x.number, ships));
            }
            if (x.twice) {
                way.add(new Cargo(load, to, day + x.number + 1, ships));
            }
        }

        private void alter(String word, int change, int island) {
            if (word.equals("out")) {
                has[island] = Model.this.out(has[island], change);
                return;
            }
            boolean can = word.equals("make") ? (hangsOn(change) & ~has[island]) == 0 : isAnywhere(change);
            if (can) {
                has[island] |= 1 << change | hangsOn(change);
            } else {
                missed++;
            }
        }

        private boolean isAnywhere(int change) {
            for (int i = 0; i < islands.size(); i++) {
                if ((has[i] >> change & 1) != 0) {
                    return true;
                }
            }
            return false;
        }
    }
}
