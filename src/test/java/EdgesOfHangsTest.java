// The boundary cases of promises 15 to 21: what hangs on what.
public final class EdgesOfHangsTest {
    private static final Edges EDGES = new Edges("EdgesOfHangsTest");
    private static final String NO_CHANGE = "2 no such CHANGE, ISLAND";
    private static final String NO_SET = "a SET with others";
    private static final int[] NO_CHANGES = {-1, 6, 16, 31, 32, Integer.MAX_VALUE, Integer.MIN_VALUE};
    private static final int[] NO_SETS = {-1, 64, 65, 127, 65536, 1 << 30, Integer.MAX_VALUE, Integer.MIN_VALUE};

    public static void main(String[] args) {
        askHangs();
        askRefused();
        askHolds();
        askFullSet();
        askLacks();
        askOut();
        askPick();
        askHeaviest();
        askAlone();
        EDGES.end(15, 21);
    }

    private static void askHangs() {
        for (int change : NO_CHANGES) {
            EDGES.refused(15, NO_CHANGE, 2, "hangs", change, 0);
            EDGES.refused(15, "(2; 5)", 2, "hangs", change, 3);
        }
        for (int what : new int[] {-1, 3, Integer.MAX_VALUE, Integer.MIN_VALUE}) {
            EDGES.refused(15, "(2; 5)", 5, "hangs", 0, what);
        }
        SwapBook x = EDGES.begin(15, "A CHANGE HANGS ON: that OF which it is (a SETTLE: both), all told AFTER (told ahead), and all that those hang on.",
            "put a key 1 says 1; put b key 1 says 1; name c of a says 1; name d of a says 2; settle e of c not d after b;"
            + "put f key 1 says 1 after e; put g key 1 says 1;");
        int[][] due = {{0, 0, 60}, {0, 0, 48}, {1, 1, 48}, {1, 1, 48}, {14, 15, 32}, {16, 31, 0}, {0, 0, 0}};
        for (int change = 0; change < due.length; change++) {
            for (int what = 0; what < 3; what++) {
                EDGES.gives(x, due[change][what], "hangs", change, what);
            }
        }
        x = EDGES.begin(15, "It NEEDS directly the first two kinds.", World.chain());
        for (int change = 0; change < 16; change++) {
            EDGES.gives(x, change == 0 ? 0 : 1 << change - 1, "hangs", change, 0);
            EDGES.gives(x, (1 << change) - 1, "hangs", change, 1);
            EDGES.gives(x, 65535 & ~((2 << change) - 1), "hangs", change, 2);
        }
    }

    private static void askRefused() {
        for (int set : NO_SETS) {
            EDGES.refused(16, NO_SET, 2, "holds", set);
            EDGES.refused(17, NO_SET, 2, "lacks", set);
            EDGES.refused(18, NO_SET, 2, "out", set, 0);
            EDGES.refused(19, NO_SET, 2, "pick", set, 0);
        }
        for (int change : NO_CHANGES) {
            EDGES.refused(18, NO_CHANGE, 2, "out", 63, change);
            EDGES.refused(19, NO_CHANGE, 2, "pick", 63, change);
        }
    }

    private static void askHolds() {
        SwapBook x = EDGES.begin(16, "HOLDS, if with each one all that it hangs on is in it", World.chain());
        for (int many = 0; many <= 16; many++) {
            EDGES.gives(x, 1, "holds", (1 << many) - 1);
        }
        for (int many = 1; many < 16; many++) {
            EDGES.gives(x, 0, "holds", 65535 & ~((1 << many) - 1));
            EDGES.gives(x, 0, "holds", 65535 & ~(1 << many - 1));
        }
        x = EDGES.begin(16, "1 if a SET HOLDS, else 0");
        EDGES.gives(x, 1, "holds", 0);
        EDGES.refuses(x, 2, "holds", 1);
        EDGES.refuses(x, 2, "holds", -1);
    }

    private static void askFullSet() {
        SwapBook x = EDGES.begin(16, "A SET of CHANGES (1 for CHANGE 0, 2 for CHANGE 1 ..)", World.puts(16));
        EDGES.gives(x, 1, "holds", 65535);
        EDGES.refuses(x, 2, "holds", 65536);
        EDGES.refuses(x, 2, "holds", 131071);
        EDGES.gives(x, 32768, "out", 32768, 14);
        EDGES.gives(x, 0, "out", 32768, 15);
        EDGES.gives(x, 65535, "pick", 32767, 15);
        x = EDGES.begin(16, NO_SET, World.puts(1));
        EDGES.gives(x, 1, "holds", 1);
        EDGES.refuses(x, 2, "holds", 2);
        EDGES.refuses(x, 2, "holds", 3);
    }

    private static void askLacks() {
        SwapBook x = EDGES.begin(17, "What a SET lacks to HOLD: the least set", World.chain());
        EDGES.gives(x, 0, "lacks", 0);
        EDGES.gives(x, 0, "lacks", 1);
        EDGES.gives(x, 0, "lacks", 65535);
        EDGES.gives(x, 1, "lacks", 65534);
        EDGES.gives(x, 32767, "lacks", 32768);
        EDGES.gives(x, 32767 & ~256, "lacks", 32768 | 256);
        x = EDGES.begin(17, "What a SET lacks to HOLD: the least set");
        EDGES.gives(x, 0, "lacks", 0);
        EDGES.refuses(x, 2, "lacks", 1);
    }

    private static void askOut() {
        SwapBook x = EDGES.begin(18, "OUT: a SET without a CHANGE and all in it that hang on it.", World.chain());
        EDGES.gives(x, 0, "out", 0, 0);
        EDGES.gives(x, 0, "out", 65535, 0);
        EDGES.gives(x, 32767, "out", 65535, 15);
        EDGES.gives(x, 7, "out", 65535, 3);
        // It need not be in the SET, nor must the SET hold.
        EDGES.gives(x, 7, "out", 7, 3);
        EDGES.gives(x, 1, "out", 0b1001, 2);
        EDGES.refuses(EDGES.begin(18, NO_CHANGE), 2, "out", 0, 0);
    }

    private static void askPick() {
        SwapBook x = EDGES.begin(19, "PICK: a SET and a CHANGE with all that it hangs on.", World.chain());
        EDGES.gives(x, 1, "pick", 0, 0);
        EDGES.gives(x, 65535, "pick", 0, 15);
        EDGES.gives(x, 65535, "pick", 65535, 15);
        EDGES.gives(x, 15, "pick", 7, 3);
        EDGES.gives(x, 0b10000011, "pick", 0b10000000, 1);
        EDGES.refuses(EDGES.begin(19, NO_CHANGE), 2, "pick", 0, 0);
    }

    private static void askHeaviest() {
        EDGES.refusedIn(SwapBook::new, 20, "HEAVIEST (8: no CHANGE).", 8, "heaviest");
        SwapBook x = EDGES.begin(20, "HEAVIEST (8: no CHANGE).", "island i;");
        EDGES.refuses(x, 8, "heaviest");
        String words = "HEAVIEST: the CHANGE on which most others hang, of several the first.";
        EDGES.gives(EDGES.begin(20, words, World.puts(1)), 0, "heaviest");
        EDGES.gives(EDGES.begin(20, words, World.puts(16)), 0, "heaviest");
        EDGES.gives(EDGES.begin(20, words, World.chain()), 0, "heaviest");
        EDGES.gives(EDGES.begin(20, words, World.puts(3) + "take d of c; take e of b;"), 1, "heaviest");
        EDGES.gives(EDGES.begin(20, words, World.puts(15) + "take p of o;"), 14, "heaviest");
        EDGES.gives(EDGES.begin(20, words, World.puts(3) + "take d of a; take e of c; take f of c;"), 2, "heaviest");
        EDGES.gives(EDGES.begin(20, words, World.puts(2) + "take c of b after a;"), 0, "heaviest");
    }

    private static void askAlone() {
        String words = "ALONE: PUTS on which nothing hangs.";
        EDGES.gives(EDGES.begin(21, words), 0, "alone");
        EDGES.gives(EDGES.begin(21, words, World.chain()), 0, "alone");
        EDGES.gives(EDGES.begin(21, words, World.puts(16)), 65535, "alone");
        EDGES.gives(EDGES.begin(21, words, World.puts(2) + "take c of a;"), 2, "alone");
        EDGES.gives(EDGES.begin(21, words, World.puts(2) + "put d key 1 says 1 after a;"), 6, "alone");
    }
}
