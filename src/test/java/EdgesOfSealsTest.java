// The boundary cases of promises 48 to 51: SEALED rows and MARKS.
public final class EdgesOfSealsTest {
    private static final Edges EDGES = new Edges("EdgesOfSealsTest");
    private static final String SEALED = "1 and how many of its CHANGES; then each by its kind (0 PUT, 1 TAKE, 2 NAME, 3 MOVE, 4 SETTLE) and 5 times its number, "
        + "by numbers; then what is left of all these together by 251";
    private static final String OPEN = "(1; 3; 4: it has fewer numbers than that takes, three at least; 9: not so)";
    private static final String OPENED = "OPENED: only what could be SEALED so by this BOOK, and HOLDS.";
    private static final int FAR = Integer.MAX_VALUE;
    private static final int LOW = Integer.MIN_VALUE;

    public static void main(String[] args) {
        askSeal();
        askSealRefused();
        askWhatIsLeft();
        askOpenRefused();
        askTooFew();
        askNotSo();
        askMark();
        askBack();
        askKept();
        askNotKept();
        EDGES.end(48, 51);
    }

    private static void askSeal() {
        SwapBook x = EDGES.begin(48, "A SET is SEALED in a TRAY from place 0 on: how many numbers");
        World.lay(x, 0, 1, 9, 9, 9, 9);
        EDGES.gives(x, 3, "seal", 0, 0);
        EDGES.givesRow(x, 0, 1, 0, 1, 9);
        x = EDGES.begin(48, SEALED, "put a key 1 says 1;take b of a;name c of a says 1;move d of a key 1;settle e of c not b;");
        for (int sort = 1; sort < 4; sort++) {
            x.tray(sort, sort, 8);
            EDGES.gives(x, 8, "seal", sort, 31);
            EDGES.givesRow(x, sort, 1, 5, 0, 6, 12, 18, 24, 1 + 5 + 6 + 12 + 18 + 24);
            EDGES.gives(x, 31, "open", sort);
        }
        x = EDGES.begin(48, SEALED, World.puts(16));
        x.tray(0, 1, 19);
        EDGES.gives(x, 19, "seal", 0, 65535);
        EDGES.givesRow(x, 0, 1, 16, 0, 5, 10, 15, 20, 25, 30, 35, 40, 45, 50, 55, 60, 65, 70, 75, 617 % 251);
        EDGES.gives(x, 65535, "open", 0);
    }

    private static void askSealRefused() {
        String words = "(1; 2; 3; 4; 5: the TRAY is of 8 bits; 9; in this order)";
        for (int tray : new int[] {-1, 4, FAR, LOW}) {
            EDGES.refused(48, words, 1, "seal", tray, -1);
        }
        for (int set : new int[] {-1, 64, 127, 65536, FAR, LOW}) {
            EDGES.refused(48, words, 2, "seal", 3, set);
            EDGES.refused(48, words, 2, "seal", 0, set);
        }
        EDGES.refused(48, words, 3, "seal", 3, 4);
        EDGES.refused(48, words, 3, "seal", 3, 0);
        // TRAY 2 has four numbers, 0 six, 1 nine of 8 bits.
        EDGES.refused(48, words, 4, "seal", 2, 3);
        EDGES.refused(48, words, 4, "seal", 2, 6);
        EDGES.refused(48, words, 4, "seal", 0, 15);
        EDGES.refused(48, words, 5, "seal", 1, 63);
        EDGES.refused(48, words, 5, "seal", 1, 4);
        EDGES.refused(48, words, 5, "seal", 1, 0);
        EDGES.refused(48, words, 9, "seal", 2, 4);
        EDGES.refused(48, words, 9, "seal", 0, 6);
        SwapBook x = EDGES.begin(48, words, World.puts(7));
        x.tray(0, 0, 2);
        EDGES.refuses(x, 4, "seal", 0, 0);
        x.tray(0, 0, 3);
        EDGES.refuses(x, 5, "seal", 0, 0);
        x.tray(0, 1, 2);
        EDGES.refuses(x, 4, "seal", 0, 0);
        x.tray(0, 1, 9);
        EDGES.refuses(x, 4, "seal", 0, 127);
        x.tray(0, 1, 10);
        EDGES.gives(x, 10, "seal", 0, 127);
    }

    private static int setOf(int... changes) {
        int set = 0;
        for (int change : changes) {
            set |= 1 << change;
        }
        return set;
    }

    // SETS whose numbers make 250, 251, 252 and 502 together.
    private static void askWhatIsLeft() {
        SwapBook x = EDGES.begin(48, "what is left of all these together by 251", World.puts(16));
        x.tray(0, 1, 19);
        int[] sets = {setOf(15, 14, 13, 7), setOf(15, 14, 11, 8, 1), setOf(15, 14, 10, 7, 2, 1),
            setOf(15, 14, 13, 12, 11, 10, 9, 8, 3, 2, 1)};
        int[] left = {250, 0, 1, 0};
        for (int i = 0; i < sets.length; i++) {
            int many = Integer.bitCount(sets[i]);
            EDGES.gives(x, many + 3, "seal", 0, sets[i]);
            EDGES.gives(x, left[i], "read", 0, many + 2);
            EDGES.gives(x, sets[i], "open", 0);
            EDGES.gives(x, 1, "write", 0, many + 2, left[i] + 251);
            EDGES.refuses(x, 9, "open", 0);
            EDGES.gives(x, 1, "write", 0, many + 2, left[i] - 251);
            EDGES.refuses(x, 9, "open", 0);
        }
    }

    private static void askOpenRefused() {
        for (int tray : new int[] {-1, 4, FAR, LOW}) {
            EDGES.refused(49, OPEN, 1, "open", tray);
        }
        EDGES.refused(49, OPEN, 3, "open", 3);
        EDGES.refused(49, OPEN, 9, "open", 2);
        SwapBook x = EDGES.begin(49, "The SET that a TRAY has SEALED");
        World.lay(x, 0, 1, 1, 0, 1);
        EDGES.gives(x, 0, "open", 0);
        EDGES.givesRow(x, 0, 1, 0, 1);
    }

    private static void opens(SwapBook x, int set, int status, long... row) {
        World.lay(x, 3, 3, row);
        if (status == 0) {
            EDGES.gives(x, set, "open", 3);
        } else {
            EDGES.refuses(x, status, "open", 3);
        }
    }

    private static void askTooFew() {
        SwapBook x = EDGES.begin(49, "4: it has fewer numbers than that takes, three at least", World.puts(3));
        opens(x, -1, 4);
        opens(x, -1, 4, 1);
        opens(x, -1, 4, 0, 9);
        opens(x, -1, 4, 1, 0);
        opens(x, 0, 0, 1, 0, 1);
        opens(x, -1, 4, 1, 1, 2);
        opens(x, 1, 0, 1, 1, 0, 2);
        opens(x, -1, 4, 1, 3, 0, 5, 10);
        opens(x, 7, 0, 1, 3, 0, 5, 10, 19);
        opens(x, 7, 0, 1, 3, 0, 5, 10, 19, -1, 4);
        x = EDGES.begin(49, "4: it has fewer numbers than that takes, three at least", World.puts(16));
        opens(x, -1, 4, 1, 16, 0, 5, 10, 15, 20, 25, 30, 35, 40, 45, 50, 55, 60, 65, 70, 75);
        opens(x, 65535, 0, 1, 16, 0, 5, 10, 15, 20, 25, 30, 35, 40, 45, 50, 55, 60, 65, 70, 75, 115);
    }

    private static void askNotSo() {
        // a 0, b 1, c 2: 0, 7, 10
        SwapBook x = EDGES.begin(49, OPENED, "put a key 1 says 1; name b of a says 1; put c key 1 says 1;");
        opens(x, 7, 0, 1, 3, 0, 7, 10, 21);
        for (long head : new long[] {0, 2, -1, 257, (1L << 32) + 1}) {
            opens(x, -1, 9, head, 1, 0, 2);
            opens(x, -1, 9, head, 1, 0);
            opens(x, -1, 9, head, 0, head);
        }
        for (long count : new long[] {-1, -2, (1L << 32) + 1, Long.MIN_VALUE, Long.MAX_VALUE}) {
            opens(x, -1, 9, 1, count, 0, 2);
        }
        // What is left is wrong; another kind; a number that is no CHANGE; below 0.
        opens(x, -1, 9, 1, 3, 0, 7, 10, 20);
        opens(x, -1, 9, 1, 3, 0, 7, 10, 22);
        opens(x, -1, 9, 1, 2, 0, 6, 9);
        opens(x, -1, 9, 1, 2, 0, 8, 11);
        opens(x, -1, 9, 1, 1, 15, 17);
        opens(x, -1, 9, 1, 1, 80, 82);
        opens(x, -1, 9, 1, 1, -5, -3);
        opens(x, -1, 9, 1, 1, 1L << 32, 2);
        // Not by numbers; one twice; more than there are.
        opens(x, -1, 9, 1, 2, 10, 0, 13);
        opens(x, -1, 9, 1, 2, 0, 0, 3);
        opens(x, -1, 9, 1, 4, 0, 7, 10, 10, 32);
        // It does not HOLD.
        opens(x, -1, 9, 1, 1, 7, 9);
        opens(x, -1, 9, 1, 2, 7, 10, 20);
        // What is left is what a CHANGE farther on would be SEALED as.
        x = EDGES.begin(49, OPENED, "put a key 1 says 1; name b of a says 1; name c of a says 1; put d key 1 says 1; move e of a key 1;");
        opens(x, 7, 0, 1, 3, 0, 7, 12, 23);
        x = EDGES.begin(49, OPENED);
        opens(x, -1, 9, 1, 1, 0, 2);
        opens(x, 0, 0, 1, 0, 1);
        x = EDGES.begin(49, OPENED, "put a key 1 says 1; take b of a;");
        opens(x, 3, 0, 1, 2, 0, 6, 9);
        Check.book(x, "put a key 1 says 1; name b of a says 1;");
        EDGES.refuses(x, 9, "open", 3);
    }

    private static void askMark() {
        EDGES.refusedIn(World::marked, 50, "MARKS, at most 3", 7, "mark");
        SwapBook x = EDGES.begin(50, "A MARK more: how many there are (7).");
        EDGES.gives(x, 1, "mark");
        EDGES.gives(x, 2, "mark");
        EDGES.gives(x, 3, "mark");
        EDGES.refuses(x, 7, "mark");
        EDGES.refuses(x, 7, "mark");
        EDGES.gives(x, 2, "back");
        EDGES.gives(x, 3, "mark");
        EDGES.refuses(x, 7, "mark");
    }

    private static void askBack() {
        EDGES.refusedIn(World::plain, 51, "All is taken back to the latest MARK: how many there are left (8).", 8, "back");
        SwapBook x = EDGES.begin(51, "All is taken back to the latest MARK: how many there are left (8).");
        EDGES.refuses(x, 8, "back");
        x.mark();
        x.mark();
        x.mark();
        EDGES.gives(x, 2, "back");
        EDGES.gives(x, 1, "back");
        EDGES.gives(x, 0, "back");
        EDGES.refuses(x, 8, "back");
        EDGES.gives(x, 1, "mark");
    }

    private static void askKept() {
        SwapBook x = EDGES.begin(51, "the BOOK, what ISLANDS have, the ORDER, the LOG are kept as they are");
        x.mark();
        Check.book(x, "island i;" + World.puts(2));
        x.give(0, 3);
        x.ordered(3, 1);
        Check.log(x, "out a at i;");
        x.mark();
        EDGES.gives(x, 1, "sail", 0);
        EDGES.gives(x, 1, "swap", 0);
        EDGES.gives(x, 0, "log", 0);
        x.mark();
        EDGES.gives(x, 0, "book", 0);
        EDGES.gives(x, 2, "back");
        EDGES.gives(x, 2, "many", 0);
        EDGES.gives(x, 2, "has", 0);
        EDGES.gives(x, 0, "orderAt", 0);
        EDGES.gives(x, 0, "sail", 0);
        EDGES.gives(x, 1, "back");
        EDGES.gives(x, 3, "has", 0);
        EDGES.gives(x, 1, "orderAt", 0);
        EDGES.gives(x, 0, "orderAt", 1);
        EDGES.gives(x, 1, "sail", 0);
        EDGES.gives(x, 2, "has", 0);
        EDGES.gives(x, 0, "back");
        EDGES.gives(x, 0, "many", 0);
        EDGES.gives(x, 0, "many", 1);
        EDGES.refuses(x, 8, "orderAt", 0);
        EDGES.refuses(x, 8, "sail", 0);
        x = EDGES.begin(51, "all is taken back to the latest MARK, which is gone then", "island i;" + World.puts(1));
        x.mark();
        x.give(0, 1);
        x.mark();
        x.give(0, 0);
        EDGES.gives(x, 1, "back");
        EDGES.gives(x, 1, "has", 0);
        EDGES.gives(x, 0, "back");
        EDGES.gives(x, 0, "has", 0);
        EDGES.refuses(x, 8, "back");
        EDGES.gives(x, 0, "has", 0);
    }

    // TRAYS, the FRACTION, the tape, what fault() and sailed() tell are none of what a MARK keeps.
    private static void askNotKept() {
        SwapBook x = EDGES.begin(51, "the BOOK, what ISLANDS have, the ORDER, the LOG are kept as they are", World.puts(2));
        x.mark();
        x.tray(0, 0, 1);
        x.write(0, 0, 7);
        x.ahead(3, 0, 1);
        Check.log(x, "wait 3;");
        x.sail(0);
        Check.log(x, "?");
        x.feed(0, 0, 0, 0, 0);
        EDGES.gives(x, 0, "back");
        EDGES.gives(x, 7, "read", 0, 0);
        EDGES.gives(x, 1, "top");
        EDGES.gives(x, 2, "bottom");
        EDGES.gives(x, 3, "sailed", 0);
        EDGES.gives(x, 1, "fault", 0);
        EDGES.gives(x, 40, "feed", 0, 0, 0, 0, 0);
        EDGES.refuses(x, 8, "sail", 0);
    }
}
