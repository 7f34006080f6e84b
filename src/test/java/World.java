import java.util.ArrayList;
import java.util.LinkedHashMap;
import java.util.List;
import java.util.Map;

// Objects with something in every part of them, and all that can be seen of one.
final class World {
    // a 0, b 1, c 2, d 3, e 4, f 5
    static final String BOOK = "island ann;island bob;put a key 5 says 1;put b key 3 says 2;name c of a says 7;"
        + "name d of a says 8;move e of b key 9;settle f of c not d;";
    static final List<String> KEYWORDS = List.of(("island put key says take of name move settle not after make at ship to late "
        + "twice out pick when has quiet day draw wait loop end stop").split(" "));
    private static final int BLANKS = 0x20202020;

    private World() {
    }

    static String puts(int many) {
        StringBuilder text = new StringBuilder();
        for (int i = 0; i < many; i++) {
            text.append("put ").append((char) ('a' + i)).append(" key 1 says 1;");
        }
        return text.toString();
    }

    // a 0, b 1 of a, c 2 of b, .. p 15 of o
    static String chain() {
        StringBuilder text = new StringBuilder("put a key 1 says 1;");
        for (int i = 1; i < 16; i++) {
            text.append("name ").append((char) ('a' + i)).append(" of ").append((char) ('a' + i - 1)).append(" says 1;");
        }
        return text.toString();
    }

    // b 1 to p 15 all of a 0, each by its kind: no two hang on one another.
    static String fan(String kind, String value) {
        StringBuilder text = new StringBuilder("put a key 1 says 1;");
        for (int i = 1; i < 16; i++) {
            text.append(kind).append(" ").append((char) ('a' + i)).append(" of a ").append(value).append(";");
        }
        return text.toString();
    }

    static void lay(SwapBook x, int tray, int sort, long... row) {
        x.tray(tray, sort, row.length);
        for (int place = 0; place < row.length; place++) {
            x.write(tray, place, row[place]);
        }
    }

    static SwapBook full() {
        SwapBook x = loaded();
        Check.book(x, "put a key ?");
        Check.feed(x, "put z key 1 says 1;");
        return x;
    }

    // As full, but for a FAULT and what is on the tape.
    static SwapBook loaded() {
        SwapBook x = new SwapBook();
        Check.book(x, BOOK);
        x.mark();
        Check.log(x, "make e at bob; ship ann to bob late 2 twice; wait 1; draw 9; when has ann a; wait 1; end;");
        x.give(0, 7);
        x.ordered(7, 1);
        x.mark();
        x.give(1, 2);
        x.sail(3);
        x.ordered(23, 2);
        x.ahead(7, 0, 1);
        fillTrays(x);
        return x;
    }

    // TRAY 0 is SEALED, 1 of 8 bits, 2 of 64 bits, 3 MISSING.
    private static void fillTrays(SwapBook x) {
        x.tray(0, 1, 6);
        x.seal(0, 7);
        x.tray(1, 0, 9);
        x.tray(2, 3, 4);
        for (int place = 0; place < 4; place++) {
            x.write(1, place, 3 - place);
            x.write(2, place, -7 - place);
        }
    }

    static SwapBook marked() {
        SwapBook x = full();
        x.mark();
        return x;
    }

    // No LOG, no MARK, an empty ORDER.
    static SwapBook plain() {
        SwapBook x = new SwapBook();
        Check.book(x, BOOK);
        fillTrays(x);
        return x;
    }

    // All that can be seen of an object, by its parts. The object is of no use behind this: what can be
    // seen only by changing it comes last.
    static Map<String, List<Long>> parts(SwapBook x) {
        Map<String, List<Long>> seen = new LinkedHashMap<>();
        seen.put("fraction", List.of(x.top(), x.bottom()));
        seen.put("fault", List.of((long) x.fault(0), (long) x.fault(1)));
        seen.put("voyage", voyage(x));
        for (int tray = 0; tray < 4; tray++) {
            seen.put("tray " + tray, tray(x, tray));
        }
        seen.put("book", book(x));
        seen.put("has", has(x));
        seen.put("order", order(x));
        seen.put("log", log(x));
        seen.put("marks", marks(x));
        seen.put("tape", tape(x));
        return seen;
    }

    private static List<Long> voyage(SwapBook x) {
        List<Long> seen = new ArrayList<>();
        for (int what = 0; what < 5; what++) {
            seen.add((long) x.sailed(what));
        }
        return seen;
    }

    private static List<Long> tray(SwapBook x, int tray) {
        List<Long> seen = new ArrayList<>();
        for (int place = 0; place < 61; place += place < 9 ? 1 : 10) {
            seen.add(x.read(tray, place));
            seen.add((long) x.status());
        }
        seen.add(x.pour(tray, 0, 2, 0, 0) ? 1L : 0L);
        return seen;
    }

    private static List<Long> book(SwapBook x) {
        List<Long> seen = new ArrayList<>();
        for (int what = 0; what < 4; what++) {
            seen.add((long) x.many(what));
        }
        for (int change = 0; change < 7; change++) {
            for (int what = 0; what < 4; what++) {
                seen.add((long) x.change(change, what));
            }
            seen.add((long) x.hangs(change, 0));
        }
        return seen;
    }

    private static List<Long> has(SwapBook x) {
        List<Long> seen = new ArrayList<>();
        for (int island = 0; island < 4; island++) {
            seen.add((long) x.has(island));
        }
        return seen;
    }

    private static List<Long> order(SwapBook x) {
        List<Long> seen = new ArrayList<>();
        for (int k = 0; k < 7; k++) {
            seen.add((long) x.orderAt(k));
        }
        return seen;
    }

    // What a LOG does is seen from the same beginning, whatever ISLANDS have.
    private static List<Long> log(SwapBook x) {
        List<Long> seen = new ArrayList<>();
        x.give(0, 7);
        x.give(1, 2);
        seen.add((long) x.sail(5));
        seen.add((long) x.status());
        if (x.status() == 0) {
            seen.addAll(voyage(x));
            seen.addAll(has(x));
        }
        return seen;
    }

    private static List<Long> marks(SwapBook x) {
        List<Long> seen = new ArrayList<>();
        for (int left = 0; left < 4; left++) {
            seen.add((long) x.back());
            if (x.status() == 0) {
                seen.addAll(book(x));
                seen.addAll(has(x));
                seen.addAll(order(x));
                seen.addAll(log(x));
            }
        }
        return seen;
    }

    private static List<Long> tape(SwapBook x) {
        List<Long> seen = new ArrayList<>();
        int length = x.feed(BLANKS, BLANKS, BLANKS, BLANKS, BLANKS);
        seen.add((long) length);
        seen.add((long) x.book(length < 0 ? 900 : length));
        seen.add((long) x.change(0, 1));
        seen.add((long) x.fault(0));
        seen.add((long) x.fault(1));
        return seen;
    }
}
