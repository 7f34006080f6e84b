// The boundary cases of promises 29 to 32: QUARRELS.
public final class EdgesOfQuarrelsTest {
    private static final Edges EDGES = new Edges("EdgesOfQuarrelsTest");
    private static final String NO_SET = "a SET with others";
    private static final int[] NO_SETS = {-1, 64, 127, 65536, Integer.MAX_VALUE, Integer.MIN_VALUE};

    public static void main(String[] args) {
        askRefused();
        askQuarrels();
        askKinds();
        askSettled();
        askWith();
        askLeastOut();
        askOfSeveral();
        askMostQuiet();
        askFull();
        EDGES.end(29, 32);
    }

    private static void askRefused() {
        for (int set : NO_SETS) {
            EDGES.refused(29, NO_SET, 2, "quarrels", set);
            EDGES.refused(30, NO_SET, 2, "with", set, 0);
            EDGES.refused(31, NO_SET, 2, "leastOut", set);
        }
        for (int change : new int[] {-1, 6, 16, 32, Integer.MAX_VALUE, Integer.MIN_VALUE}) {
            EDGES.refused(30, "2 no such CHANGE", 2, "with", 63, change);
        }
        EDGES.refused(30, "(2; 8: it is not in it)", 8, "with", 62, 0);
        EDGES.refused(30, "(2; 8: it is not in it)", 8, "with", 31, 5);
        EDGES.refused(30, "(2; 8: it is not in it)", 8, "with", 0, 0);
        EDGES.refused(31, "(2; 9)", 9, "leastOut", 4);
        EDGES.refused(31, "(2; 9)", 9, "leastOut", 62);
    }

    private static void askQuarrels() {
        SwapBook x = EDGES.begin(29, "How many couples QUARREL in a SET");
        EDGES.gives(x, 0, "quarrels", 0);
        EDGES.refuses(x, 2, "quarrels", 1);
        // The SET need not HOLD.
        x = EDGES.begin(29, "How many couples QUARREL in a SET", "put a key 1 says 1; name b of a says 1; name c of a says 1;");
        EDGES.gives(x, 1, "quarrels", 6);
        EDGES.gives(x, 0, "quarrels", 2);
        EDGES.gives(x, 1, "quarrels", 7);
    }

    private static void askKinds() {
        String words = "both are NAMES, or both are MOVES, or one is a TAKE and the other one a NAME or a MOVE";
        String[] kinds = {"take %s of a;", "name %s of a says 1;", "move %s of a key 1;"};
        int[][] due = {{0, 1, 1}, {1, 1, 0}, {1, 0, 1}};
        for (int i = 0; i < 3; i++) {
            for (int j = 0; j < 3; j++) {
                SwapBook x = EDGES.begin(29, words, "put a key 1 says 1;" + kinds[i].formatted("b") + kinds[j].formatted("c"));
                EDGES.gives(x, due[i][j], "quarrels", 7);
                EDGES.gives(x, due[i][j], "many", 3);
                EDGES.gives(x, due[i][j] == 1 ? 4 : 0, "with", 7, 1);
                EDGES.gives(x, due[i][j] == 1 ? 2 : 0, "with", 7, 2);
                EDGES.gives(x, 0, "with", 7, 0);
            }
        }
        SwapBook x = EDGES.begin(29, "they are of one THING", "put a key 1 says 1; put b key 1 says 1; name c of a says 1; name d of b says 1;");
        EDGES.gives(x, 0, "quarrels", 15);
        x = EDGES.begin(29, "none hangs on the other", "put a key 1 says 1; name b of a says 1; name c of b says 1; name d of a says 1 after c;");
        EDGES.gives(x, 0, "quarrels", 15);
        EDGES.gives(x, 0, "many", 3);
    }

    private static void askSettled() {
        SwapBook x = EDGES.begin(29, "They QUARREL in a SET that has both, if no SETTLE of them is in it.",
            "put a key 1 says 1; name b of a says 1; name c of a says 1; name d of a says 1; settle e of b not c; settle f of c not b;");
        EDGES.gives(x, 3, "quarrels", 0b001111);
        EDGES.gives(x, 2, "quarrels", 0b011111);
        EDGES.gives(x, 2, "quarrels", 0b101111);
        EDGES.gives(x, 2, "quarrels", 0b111111);
        EDGES.gives(x, 0, "quarrels", 0b010111);
        EDGES.gives(x, 0, "quarrels", 0b110111);
        EDGES.gives(x, 0b1000, "with", 0b011111, 1);
        EDGES.gives(x, 0b1000, "with", 0b011111, 2);
        EDGES.gives(x, 0b0110, "with", 0b011111, 3);
        EDGES.gives(x, 0, "with", 0b011111, 4);
    }

    private static void askWith() {
        SwapBook x = EDGES.begin(30, "The SET with whom a CHANGE QUARRELS in a SET", World.fan("move", "key 1"));
        EDGES.gives(x, 65534 & ~32768, "with", 65535, 15);
        EDGES.gives(x, 65534 & ~2, "with", 65535, 1);
        EDGES.gives(x, 0, "with", 65535, 0);
        EDGES.gives(x, 0, "with", 2, 1);
        EDGES.gives(x, 105, "quarrels", 65535);
    }

    private static void askLeastOut() {
        String words = "LEAST OUT of a SET that HOLDS: the fewest CHANGES of it such that it is QUIET and HOLDS without them: a set";
        EDGES.gives(EDGES.begin(31, words), 0, "leastOut", 0);
        String text = "put a key 1 says 1; name b of a says 1; name c of a says 1; name d of c says 1; take e of a;";
        SwapBook x = EDGES.begin(31, words, text);
        EDGES.gives(x, 0, "leastOut", 0);
        EDGES.gives(x, 0, "leastOut", 0b1);
        EDGES.gives(x, 0, "leastOut", 0b1101);
        EDGES.gives(x, 0b10, "leastOut", 0b1111);
        EDGES.gives(x, 0b10, "leastOut", 0b11 | 0b10000);
        EDGES.gives(x, 0b10000, "leastOut", 0b11101);
        EDGES.gives(x, 0b10010, "leastOut", 0b11111);
        EDGES.gives(x, 3, "mostQuiet");
        // What hangs on what goes out goes out, too: a SETTLE with it, so that more quarrel.
        x = EDGES.begin(31, words, "put a key 1 says 1; name b of a says 1; name c of a says 1; put d key 1 says 1; name e of d says 1;"
            + "name f of d says 1; settle g of b not c after e; take h of a after g f;");
        EDGES.gives(x, 0b10100000, "leastOut", 255);
        EDGES.gives(x, 0b100000, "leastOut", 127);
    }

    private static void askOfSeveral() {
        String words = "of several the least as a number";
        SwapBook x = EDGES.begin(31, words, "put a key 1 says 1; name b of a says 1; name c of a says 1;");
        EDGES.gives(x, 0b10, "leastOut", 0b111);
        x = EDGES.begin(31, words, "put a key 1 says 1; put b key 1 says 1; name c of a says 1; name d of b says 1; name e of b says 1; name f of a says 1;");
        EDGES.gives(x, 0b1100, "leastOut", 0b111111);
        // Three of which any two quarrel: the last one stays.
        x = EDGES.begin(31, words, "put a key 1 says 1; move b of a key 1; move c of a key 1; move d of a key 1;");
        EDGES.gives(x, 0b110, "leastOut", 0b1111);
        // Two out by either way: c and d make a lesser number than b and e.
        x = EDGES.begin(31, words, "put a key 1 says 1; name b of a says 1; name c of a says 1; name d of c says 1; name e of b says 1;");
        EDGES.gives(x, 0b01100, "leastOut", 0b11111);
    }

    private static void askMostQuiet() {
        String words = "MOST QUIET: the most CHANGES of all that HOLD together and are QUIET: how many.";
        EDGES.gives(EDGES.begin(32, words), 0, "mostQuiet");
        EDGES.gives(EDGES.begin(32, words, "island i;"), 0, "mostQuiet");
        EDGES.gives(EDGES.begin(32, words, "put a key 1 says 1;"), 1, "mostQuiet");
        EDGES.gives(EDGES.begin(32, words, "put a key 1 says 1; name b of a says 1; name c of a says 1; settle d of b not c;"), 4, "mostQuiet");
        EDGES.gives(EDGES.begin(32, words, "put a key 1 says 1; name b of a says 1; name c of a says 1; settle d of b not c; take e of a;"), 4,
            "mostQuiet");
    }

    private static void askFull() {
        SwapBook x = EDGES.begin(31, "the fewest CHANGES of it", World.fan("name", "says 1"));
        EDGES.gives(x, 65534 & ~32768, "leastOut", 65535);
        x = EDGES.begin(32, "MOST QUIET", World.fan("name", "says 1"));
        EDGES.gives(x, 2, "mostQuiet");
        x = EDGES.begin(32, "MOST QUIET", World.chain());
        EDGES.gives(x, 16, "mostQuiet");
        EDGES.gives(x, 0, "leastOut", 65535);
    }
}
