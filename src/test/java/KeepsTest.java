import java.lang.reflect.Method;
import java.lang.reflect.Modifier;
import java.util.ArrayList;
import java.util.List;

// A good call changes what the document tells of it, and nothing else: each call of the face is asked
// of an object with something in every part, which is compared with a twin without the call.
public final class KeepsTest {
    private static final Edges EDGES = new Edges("KeepsTest");
    private static final int BLANKS = 0x20202020;
    private static final List<Asked> ASKED = new ArrayList<>();

    private record Asked(String name, long... with) {
    }

    public static void main(String[] args) {
        askTrays();
        askTexts();
        askHangs();
        askLists();
        askQuarrels();
        askOrders();
        askIslands();
        askSealsAndMarks();
        askMarksBehindAll();
        askFace();
        EDGES.end(2, 51);
    }

    // The call, which gives this, changes these parts alone.
    private static void changes(int promise, String words, String parts, long want, String name, long... with) {
        EDGES.begin(promise, words);
        SwapBook x = World.full();
        SwapBook twin = World.full();
        EDGES.gives(x, want, name, with);
        EDGES.changesOnly(name, x, twin, parts.isEmpty() ? new String[0] : parts.split(", "));
        ASKED.add(new Asked(name, with));
    }

    private static void tells(int promise, String words, long want, String name, long... with) {
        changes(promise, words, "", want, name, with);
    }

    private static void askTrays() {
        tells(2, "The STATUS of the latest call that has one.", 10, "status");
        tells(3, "The top of the FRACTION told latest.", 2, "top");
        tells(4, "Its bottom, above 0.", 3, "bottom");
        changes(5, "A TRAY is a row of so many numbers", "tray 3", 1, "tray", 3, 0, 5);
        changes(5, "A TRAY is a row of so many numbers", "tray 1", 1, "tray", 1, 2, 9);
        changes(6, "A number comes to a place of a TRAY", "tray 2", 1, "write", 2, 3, 5);
        tells(7, "The number in a place of a TRAY", -10, "read", 2, 3);
        changes(8, "So many numbers from place i on of a TRAY", "tray 1", 1, "pour", 1, 0, 1, 1, 3);
    }

    private static void askTexts() {
        changes(9, "Twenty bytes come behind those on the tape", "tape", 40, "feed", BLANKS, BLANKS, BLANKS, BLANKS, BLANKS);
        changes(10, "(which is empty then, but for 5) are the BOOK", "fault, book, has, order, log, tape", 1, "book", 20);
        changes(11, "Likewise the LOG: how many STEPS", "fault, log, tape", 0, "log", 0);
        tells(12, "what 0: the FAULT", 1, "fault", 0);
        tells(12, "1: its place", 10, "fault", 1);
        tells(13, "How many CHANGES (what 0)", 6, "many", 0);
        tells(13, "couples that would QUARREL (3)", 1, "many", 3);
        tells(14, "1: its KEY or what it SAYS", 7, "change", 2, 1);
        tells(14, "4: LEVEL", 2, "change", 5, 4);
    }

    private static void askHangs() {
        tells(15, "hangs on (1)", 13, "hangs", 5, 1);
        tells(16, "1 if a SET HOLDS, else 0", 0, "holds", 8);
        tells(17, "What a SET lacks to HOLD: the least set", 13, "lacks", 32);
        tells(18, "OUT (2).", 18, "out", 63, 0);
        tells(19, "PICK (2).", 45, "pick", 0, 5);
        tells(20, "HEAVIEST (8: no CHANGE).", 0, "heaviest");
        tells(21, "ALONE: a set.", 0, "alone");
    }

    private static void askLists() {
        tells(22, "How many THINGS the LIST of a SET has", 2, "size", 63);
        tells(23, "The THING (its PUT) in a place of it", 1, "thing", 63, 1);
        tells(24, "What a THING, by its PUT, SAYS there", 7, "says", 63, 0);
        tells(25, "Its KEY there", 9, "key", 63, 1);
        tells(26, "Its place there", 0, "place", 63, 0);
        tells(27, "1 if two SETS are LIKE, else 0", 0, "like", 3, 13);
        tells(28, "APART (2; 9: either; 8: nowhere; in this order).", 1, "apart", 3, 7);
    }

    private static void askQuarrels() {
        tells(29, "How many couples QUARREL in a SET", 1, "quarrels", 13);
        tells(30, "The SET with whom a CHANGE QUARRELS in a SET", 8, "with", 13, 2);
        tells(31, "LEAST OUT (2; 9).", 4, "leastOut", 13);
        tells(32, "MOST QUIET.", 6, "mostQuiet");
    }

    private static void askOrders() {
        tells(33, "How many ORDERS of a SET there are", 3, "orders", 7);
        changes(34, "The FRACTION is in how many of these", "fraction", 1, "ahead", 7, 2, 1);
        changes(35, "The ORDER is the one of a number", "order", 2, "ordered", 3, 1);
        changes(36, "The ORDER is what stands in a TRAY", "order", 1, "order", 1, 0);
        tells(37, "The number of the ORDER among those of its SET.", 2, "number");
        tells(38, "The k-th CHANGE of the ORDER", 0, "orderAt", 0);
        tells(39, "At which place it ACTS", 0, "acts", 0);
        changes(40, "The k-th and the next one are SWAPPED", "order", 1, "swap", 1);
        changes(41, "A CHANGE of the ORDER is SWAPPED with the one ahead of it as long as it may", "order", 0, "forward", 1);
        tells(42, "The fewest swaps that lead from the ORDER to the first one of its SET.", 1, "swaps");
    }

    private static void askIslands() {
        tells(43, "What an ISLAND has", 7, "has", 0);
        changes(44, "It has this SET", "has", 1, "give", 1, 1);
        changes(45, "SAILED by a seed: how many STEPS were done", "voyage, has", 6, "sail", 2);
        tells(46, "what 0: the DAY", 2, "sailed", 0);
        tells(47, "(what they have stays)", 0, "agreed", 0, 30);
    }

    private static void askSealsAndMarks() {
        changes(48, "A SET is SEALED in a TRAY from place 0 on: how many numbers", "tray 0", 5, "seal", 0, 3);
        tells(49, "The SET that a TRAY has SEALED", 7, "open", 0);
        changes(50, "A MARK more: how many there are", "marks", 3, "mark");
        changes(51, "All is taken back to the latest MARK: how many there are left", "has, order, marks", 1, "back");
    }

    // The twin may be wrong, too: so what two MARKS keep is asked behind all other calls.
    private static void askMarksBehindAll() {
        EDGES.begin(51, "All is taken back to the latest MARK");
        SwapBook x = World.full();
        for (Asked asked : ASKED) {
            if (!List.of("book", "mark", "back").contains(asked.name)) {
                Edges.call(x, asked.name, asked.with);
            }
        }
        EDGES.due("book", Check.book(x, "put z key 1 says 1;"), 1);
        EDGES.gives(x, 1, "back");
        EDGES.gives(x, 6, "many", 0);
        EDGES.gives(x, 7, "has", 0);
        EDGES.gives(x, 0, "has", 1);
        EDGES.gives(x, 0, "orderAt", 0);
        EDGES.gives(x, 2, "orderAt", 1);
        EDGES.gives(x, 1, "orderAt", 2);
        EDGES.refuses(x, 8, "orderAt", 3);
        EDGES.gives(x, 6, "sail", 2);
        EDGES.gives(x, 0, "back");
        EDGES.gives(x, 6, "many", 0);
        EDGES.gives(x, 0, "has", 0);
        EDGES.gives(x, 0, "has", 1);
        EDGES.refuses(x, 8, "orderAt", 0);
        EDGES.refuses(x, 8, "sail", 2);
        EDGES.refuses(x, 8, "back");
    }

    private static void askFace() {
        for (Method m : SwapBook.class.getDeclaredMethods()) {
            if (Modifier.isPublic(m.getModifiers())) {
                boolean asked = ASKED.stream().anyMatch(call -> call.name.equals(m.getName()));
                EDGES.due(m.getName() + " is asked", asked ? 1 : 0, 1);
            }
        }
    }
}
