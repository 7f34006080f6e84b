// The boundary cases of promises 33 to 42: ORDERS.
public final class EdgesOfOrdersTest {
    private static final Edges EDGES = new Edges("EdgesOfOrdersTest");
    private static final String NO_SET = "a SET with others";
    private static final String NO_CHANGE = "2 no such CHANGE";
    private static final int[] NO_SETS = {-1, 64, 127, 65536, Integer.MAX_VALUE, Integer.MIN_VALUE};
    private static final int[] NO_CHANGES = {-1, 6, 16, 32, Integer.MAX_VALUE, Integer.MIN_VALUE};
    private static final int[] NOT_IN_ORDER = {-1, 4, 16, 17, Integer.MAX_VALUE, Integer.MIN_VALUE};
    private static final long ALL_OF_16 = 20922789888000L;

    public static void main(String[] args) {
        askOrders();
        askAhead();
        askAheadRefused();
        askOrdered();
        askFirstAndLast();
        askOrder();
        askOrderRefused();
        askNumber();
        askOrderAt();
        askActs();
        askSwap();
        askForward();
        askSwaps();
        askLastCall();
        EDGES.end(33, 42);
    }

    private static void askRow(SwapBook x, int... row) {
        for (int k = 0; k < row.length; k++) {
            EDGES.gives(x, row[k], "orderAt", k);
        }
        EDGES.refuses(x, 8, "orderAt", row.length);
    }

    private static void askOrders() {
        for (int set : NO_SETS) {
            EDGES.refused(33, NO_SET, 2, "orders", set);
        }
        EDGES.refused(33, "(2; 9)", 9, "orders", 4);
        EDGES.refused(33, "(2; 9)", 9, "orders", 62);
        SwapBook x = EDGES.begin(33, "How many ORDERS of a SET there are");
        EDGES.gives(x, 1, "orders", 0);
        EDGES.refuses(x, 2, "orders", 1);
        x = EDGES.begin(33, "How many ORDERS of a SET there are", World.puts(16));
        EDGES.gives(x, 1, "orders", 0);
        EDGES.gives(x, 1, "orders", 32768);
        EDGES.gives(x, ALL_OF_16, "orders", 65535);
        EDGES.gives(x, ALL_OF_16 / 16, "orders", 65534);
        EDGES.gives(EDGES.begin(33, "An ORDER of CHANGES HOLDS, if each stands behind all that it hangs on.", World.chain()), 1, "orders", 65535);
        // All puts ahead of the last one, and one that all others hang on.
        x = EDGES.begin(33, "An ORDER of CHANGES HOLDS", World.puts(15) + "take p of a after b c d e f g h i j k l m n o;");
        EDGES.gives(x, ALL_OF_16 / 16, "orders", 65535);
    }

    private static void askAhead() {
        SwapBook x = EDGES.begin(34, "in how many of these one CHANGE of it stands ahead of another one", World.puts(16));
        EDGES.gives(x, 1, "ahead", 65535, 15, 0);
        EDGES.gives(x, 1, "top");
        EDGES.gives(x, 2, "bottom");
        EDGES.gives(x, 1, "ahead", 32769, 0, 15);
        EDGES.gives(x, 1, "top");
        EDGES.gives(x, 2, "bottom");
        x = EDGES.begin(34, "in how many of these one CHANGE of it stands ahead of another one", World.chain());
        EDGES.gives(x, 1, "ahead", 65535, 0, 15);
        EDGES.gives(x, 1, "top");
        EDGES.gives(x, 1, "bottom");
        EDGES.gives(x, 1, "ahead", 65535, 15, 0);
        EDGES.gives(x, 0, "top");
        EDGES.gives(x, 1, "bottom");
    }

    private static void askAheadRefused() {
        String words = "(2: both one, not in it, too; 9)";
        for (int set : NO_SETS) {
            EDGES.refused(34, NO_SET, 2, "ahead", set, 0, 1);
        }
        for (int change : NO_CHANGES) {
            EDGES.refused(34, NO_CHANGE, 2, "ahead", 63, change, 1);
            EDGES.refused(34, NO_CHANGE, 2, "ahead", 63, 1, change);
        }
        EDGES.refused(34, words, 2, "ahead", 63, 1, 1);
        EDGES.refused(34, words, 2, "ahead", 3, 0, 2);
        EDGES.refused(34, words, 2, "ahead", 3, 2, 0);
        EDGES.refused(34, words, 2, "ahead", 0, 0, 1);
        // First 2, then 9: this SET does not HOLD either.
        EDGES.refused(34, words, 2, "ahead", 12, 2, 2);
        EDGES.refused(34, words, 2, "ahead", 12, 0, 2);
        EDGES.refused(34, words, 9, "ahead", 12, 2, 3);
        EDGES.refused(34, words, 9, "ahead", 62, 1, 4);
    }

    private static void askOrdered() {
        String words = "(2; 9; 5: a number that there is not; in this order)";
        for (int set : NO_SETS) {
            EDGES.refused(35, words, 2, "ordered", set, -1);
        }
        EDGES.refused(35, words, 9, "ordered", 4, -1);
        EDGES.refused(35, words, 9, "ordered", 62, 0);
        for (long number : new long[] {-1, 3, 1L << 32, (1L << 32) + 1, Long.MAX_VALUE, Long.MIN_VALUE}) {
            EDGES.refused(35, words, 5, "ordered", 7, number);
            EDGES.refused(35, words, 5, "ordered", 0, number);
        }
        EDGES.refused(35, words, 5, "ordered", 0, 1);
        SwapBook x = EDGES.begin(35, "The ORDER is the one of a number (0: the first) of a SET: how many CHANGES");
        EDGES.gives(x, 0, "ordered", 0, 0);
        EDGES.refuses(x, 8, "orderAt", 0);
        x = EDGES.begin(35, "The ORDER is the one of a number (0: the first) of a SET: how many CHANGES", World.puts(3));
        EDGES.gives(x, 3, "ordered", 7, 5);
        askRow(x, 2, 1, 0);
        EDGES.gives(x, 1, "ordered", 4, 0);
        askRow(x, 2);
        EDGES.gives(x, 0, "ordered", 0, 0);
        askRow(x);
    }

    private static void askFirstAndLast() {
        String words = "by numbers: the first is the one with the least CHANGE first, then the least next ..; and so on.";
        SwapBook x = EDGES.begin(35, words, World.puts(16));
        EDGES.gives(x, 16, "ordered", 65535, 0);
        askRow(x, 0, 1, 2, 3, 4, 5, 6, 7, 8, 9, 10, 11, 12, 13, 14, 15);
        EDGES.gives(x, 16, "ordered", 65535, ALL_OF_16 - 1);
        askRow(x, 15, 14, 13, 12, 11, 10, 9, 8, 7, 6, 5, 4, 3, 2, 1, 0);
        EDGES.refuses(x, 5, "ordered", 65535, ALL_OF_16);
        EDGES.gives(x, ALL_OF_16 - 1, "number");
        EDGES.gives(x, 16, "ordered", 65535, ALL_OF_16 / 16);
        askRow(x, 1, 0, 2, 3, 4, 5, 6, 7, 8, 9, 10, 11, 12, 13, 14, 15);
        x = EDGES.begin(35, words, "put a key 1 says 1; take b of a; put c key 1 says 1;");
        int[][] rows = {{0, 1, 2}, {0, 2, 1}, {2, 0, 1}};
        for (int number = 0; number < 3; number++) {
            EDGES.gives(x, 3, "ordered", 7, number);
            askRow(x, rows[number]);
            EDGES.gives(x, number, "number");
        }
        EDGES.refuses(x, 5, "ordered", 7, 3);
        x = EDGES.begin(35, words, World.chain());
        EDGES.gives(x, 16, "ordered", 65535, 0);
        EDGES.refuses(x, 5, "ordered", 65535, 1);
    }

    private static void askOrder() {
        String words = "The ORDER is what stands in a TRAY, so many CHANGES (0 to 16)";
        SwapBook x = EDGES.begin(36, words, World.puts(16));
        long[] row = new long[17];
        for (int k = 0; k < 16; k++) {
            row[k] = 15 - k;
        }
        row[16] = 99;
        for (int sort = 0; sort < 4; sort++) {
            World.lay(x, sort, sort, row);
            EDGES.gives(x, 1, "order", sort, 16);
            EDGES.gives(x, ALL_OF_16 - 1, "number");
            EDGES.gives(x, 1, "order", sort, 1);
            askRow(x, 15);
            EDGES.gives(x, 1, "order", sort, 0);
            askRow(x);
        }
        x = EDGES.begin(36, words);
        x.tray(0, 0, 0);
        EDGES.gives(x, 1, "order", 0, 0);
        x.tray(0, 0, 1);
        EDGES.refuses(x, 5, "order", 0, 1);
    }

    private static void askOrderRefused() {
        String words = "(1; 3; 5: so many; 4; 5: no CHANGE, one again; 9; in this order)";
        for (int tray : new int[] {-1, 4, Integer.MAX_VALUE, Integer.MIN_VALUE}) {
            EDGES.refused(36, words, 1, "order", tray, 17);
        }
        EDGES.refused(36, words, 3, "order", 3, 17);
        for (int many : new int[] {-1, 17, Integer.MAX_VALUE, Integer.MIN_VALUE}) {
            EDGES.refused(36, words, 5, "order", 0, many);
        }
        // TRAY 1 is 3, 2, 1, 0, 0 ..: it has nine numbers.
        EDGES.refused(36, words, 4, "order", 1, 10);
        EDGES.refused(36, words, 4, "order", 1, 16);
        EDGES.refused(36, words, 5, "order", 1, 5);
        EDGES.refused(36, words, 5, "order", 1, 9);
        EDGES.refused(36, words, 9, "order", 1, 4);
        EDGES.refused(36, words, 9, "order", 1, 1);
        EDGES.refused(36, words, 5, "order", 2, 1);
        SwapBook x = EDGES.begin(36, "5: no CHANGE, one again", "put a key 1 says 1; put b key 1 says 1; take c of a;");
        for (long v : new long[] {3, 16, 32, -1, 1L << 32, Long.MIN_VALUE, Long.MAX_VALUE}) {
            World.lay(x, 0, 3, 0, v);
            EDGES.refuses(x, 5, "order", 0, 2);
            EDGES.gives(x, 1, "order", 0, 1);
        }
        World.lay(x, 0, 3, 1, 0, 1);
        EDGES.refuses(x, 5, "order", 0, 3);
        // Not in this order 9 ahead of 5.
        World.lay(x, 0, 3, 2, 0, 2);
        EDGES.refuses(x, 5, "order", 0, 3);
        EDGES.refuses(x, 9, "order", 0, 2);
        World.lay(x, 0, 3, 1, 2);
        EDGES.refuses(x, 9, "order", 0, 2);
        World.lay(x, 0, 3, 0, 2);
        EDGES.gives(x, 1, "order", 0, 2);
    }

    private static void askNumber() {
        SwapBook x = EDGES.begin(37, "The number of the ORDER among those of its SET.");
        EDGES.gives(x, 0, "number");
        x = EDGES.begin(37, "The number of the ORDER among those of its SET.", World.puts(16));
        EDGES.gives(x, 0, "number");
        World.lay(x, 0, 0, 15);
        x.order(0, 1);
        EDGES.gives(x, 0, "number");
        World.lay(x, 0, 0, 15, 0);
        x.order(0, 2);
        EDGES.gives(x, 1, "number");
        for (long number : new long[] {0, 1, ALL_OF_16 / 2, ALL_OF_16 - 1}) {
            x.ordered(65535, number);
            EDGES.gives(x, number, "number");
        }
    }

    private static void askOrderAt() {
        for (int k : NOT_IN_ORDER) {
            EDGES.refused(38, "The k-th CHANGE of the ORDER (8: none such).", 8, "orderAt", k);
        }
        EDGES.refusedIn(World::plain, 38, "The k-th CHANGE of the ORDER (8: none such).", 8, "orderAt", 0);
        SwapBook x = EDGES.begin(38, "The k-th CHANGE of the ORDER", World.puts(16));
        x.ordered(65535, 0);
        EDGES.gives(x, 0, "orderAt", 0);
        EDGES.gives(x, 15, "orderAt", 15);
        EDGES.refuses(x, 8, "orderAt", 16);
    }

    private static void askActs() {
        for (int k : NOT_IN_ORDER) {
            EDGES.refused(39, "(8; NONE with STATUS 0: none)", 8, "acts", k);
        }
        EDGES.refusedIn(World::plain, 39, "(8; NONE with STATUS 0: none)", 8, "acts", 0);
        // a 0, b 1, t 2, n 3, m 4, s 5, u 6
        SwapBook x = EDGES.begin(39, "NONE, if it is not there; SETTLE: NONE", "put a key 5 says 1; put b key 3 says 1; take t of a; name n of a says 1;"
            + "move m of a key 1; settle s of n not t; take u of a;");
        World.lay(x, 0, 0, 0, 2, 6, 3, 4, 5, 1);
        EDGES.gives(x, 1, "order", 0, 7);
        // t takes a out, so u and n find it gone; n quarrels with both: it is there again for m.
        int[] places = {0, 0, -1, -1, 0, -1, 1};
        for (int k = 0; k < places.length; k++) {
            EDGES.gives(x, places[k], "acts", k);
        }
        x = EDGES.begin(39, "PUT: where the THING is in the LIST of those up to it (it, too)", World.puts(16));
        x.ordered(65535, 0);
        EDGES.gives(x, 0, "acts", 0);
        EDGES.gives(x, 15, "acts", 15);
        EDGES.refuses(x, 8, "acts", 16);
        x.ordered(65535, ALL_OF_16 - 1);
        EDGES.gives(x, 0, "acts", 0);
        EDGES.gives(x, 0, "acts", 15);
        x = EDGES.begin(39, "others: where it is in the LIST of those ahead of it", "put a key 5 says 1; put b key 3 says 1; move m of a key 1; move n of m key 9;");
        x.ordered(15, 0);
        EDGES.gives(x, 1, "acts", 2);
        EDGES.gives(x, 0, "acts", 3);
    }

    private static void askSwap() {
        String words = "The k-th and the next one are SWAPPED (8: none such; 9).";
        for (int k : new int[] {-1, 3, 4, 15, 16, Integer.MAX_VALUE, Integer.MIN_VALUE}) {
            EDGES.refused(40, words, 8, "swap", k);
        }
        EDGES.refusedIn(World::plain, 40, words, 8, "swap", 0);
        EDGES.refusedIn(World::plain, 40, words, 8, "swap", -1);
        // The ORDER of the full world is 0, 2, 1, 4.
        EDGES.refused(40, words, 9, "swap", 0);
        EDGES.refused(40, words, 9, "swap", 2);
        SwapBook x = EDGES.begin(40, words, World.puts(16));
        x.ordered(65535, 0);
        EDGES.gives(x, 1, "swap", 14);
        EDGES.refuses(x, 8, "swap", 15);
        EDGES.gives(x, 1, "swap", 0);
        askRow(x, 1, 0, 2, 3, 4, 5, 6, 7, 8, 9, 10, 11, 12, 13, 15, 14);
        x.ordered(32768, 0);
        EDGES.refuses(x, 8, "swap", 0);
        x = EDGES.begin(40, "Two neighbours may be SWAPPED, if the second does not need the first directly.",
            "put a key 1 says 1; put b key 1 says 1; take c of a after b; name d of a says 1; settle e of d not c;");
        x.ordered(31, 0);
        EDGES.refuses(x, 9, "swap", 1);
        EDGES.gives(x, 1, "swap", 2);
        EDGES.refuses(x, 9, "swap", 3);
        EDGES.gives(x, 1, "swap", 2);
        EDGES.refuses(x, 9, "swap", 3);
        EDGES.gives(x, 1, "swap", 0);
        EDGES.refuses(x, 9, "swap", 1);
        askRow(x, 1, 0, 2, 3, 4);
    }

    private static void askForward() {
        String words = "(2; 8: it is not in it)";
        for (int change : NO_CHANGES) {
            EDGES.refused(41, words, 2, "forward", change);
        }
        EDGES.refused(41, words, 8, "forward", 3);
        EDGES.refused(41, words, 8, "forward", 5);
        EDGES.refusedIn(World::plain, 41, words, 8, "forward", 0);
        SwapBook x = EDGES.begin(41, "the how manieth it is then (0 the first)", World.puts(16));
        x.ordered(65535, 0);
        EDGES.gives(x, 0, "forward", 0);
        EDGES.gives(x, 0, "forward", 15);
        askRow(x, 15, 0, 1, 2, 3, 4, 5, 6, 7, 8, 9, 10, 11, 12, 13, 14);
        EDGES.gives(x, 0, "forward", 15);
        x = EDGES.begin(41, "A CHANGE of the ORDER is SWAPPED with the one ahead of it as long as it may",
            "put a key 1 says 1; put b key 1 says 1; put c key 1 says 1; take d of b;");
        x.ordered(15, 0);
        EDGES.gives(x, 2, "forward", 3);
        askRow(x, 0, 1, 3, 2);
        EDGES.gives(x, 2, "forward", 3);
        EDGES.gives(x, 0, "forward", 1);
        EDGES.gives(x, 1, "forward", 3);
        askRow(x, 1, 3, 0, 2);
    }

    private static void askSwaps() {
        SwapBook x = EDGES.begin(42, "The fewest swaps that lead from the ORDER to the first one of its SET.");
        EDGES.gives(x, 0, "swaps");
        x = EDGES.begin(42, "The fewest swaps that lead from the ORDER to the first one of its SET.", World.puts(16));
        EDGES.gives(x, 0, "swaps");
        x.ordered(65535, 0);
        EDGES.gives(x, 0, "swaps");
        x.ordered(65535, ALL_OF_16 - 1);
        EDGES.gives(x, 120, "swaps");
        x.ordered(32768, 0);
        EDGES.gives(x, 0, "swaps");
        x.ordered(32769, 1);
        EDGES.gives(x, 1, "swaps");
    }

    // The calls up to the 512th answer as the first ones do.
    private static void askLastCall() {
        SwapBook x = EDGES.begin(33, "An object is used for at most 512 calls after it has been made", World.chain());
        int fed = (World.chain().length() + 19) / 20 + 1;
        for (int call = fed; call < 511; call++) {
            boolean right = call % 2 == 0 ? x.orders(65535) == 1 : x.ahead(255, 0, 1);
            EDGES.due("call " + call, right ? 1 : 0, 1);
        }
        EDGES.due("the last call but one", x.ordered(65535, 0), 16);
        EDGES.due("the last call", x.number(), 0);
    }
}
