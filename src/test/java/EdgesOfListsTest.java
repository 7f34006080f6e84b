// The boundary cases of promises 22 to 28: LISTS.
public final class EdgesOfListsTest {
    private static final Edges EDGES = new Edges("EdgesOfListsTest");
    private static final String NO_SET = "a SET with others";
    private static final String NOT_HELD = "it does not HOLD";
    private static final String[] BY_PUT = {"says", "key", "place"};
    private static final int[] NO_SETS = {-1, 64, 127, 65536, Integer.MAX_VALUE, Integer.MIN_VALUE};

    public static void main(String[] args) {
        askSize();
        askGone();
        askThing();
        askByPut();
        askByPutRefused();
        askHeads();
        askAgreed();
        askKeyHeads();
        askOrderOfKeys();
        askLike();
        askApart();
        EDGES.end(22, 28);
    }

    // Each says its number.
    private static String sayingPuts(int many) {
        StringBuilder text = new StringBuilder();
        for (int i = 0; i < many; i++) {
            text.append("put ").append((char) ('a' + i)).append(" key 1 says ").append(i).append(";");
        }
        return text.toString();
    }

    private static void askSize() {
        for (int set : NO_SETS) {
            EDGES.refused(22, NO_SET, 2, "size", set);
        }
        EDGES.refused(22, NOT_HELD, 9, "size", 4);
        EDGES.refused(22, NOT_HELD, 9, "size", 62);
        SwapBook x = EDGES.begin(22, "How many THINGS the LIST of a SET has");
        EDGES.gives(x, 0, "size", 0);
        EDGES.refuses(x, 2, "size", 1);
        x = EDGES.begin(22, "How many THINGS the LIST of a SET has", sayingPuts(16));
        EDGES.gives(x, 16, "size", 65535);
        EDGES.gives(x, 0, "size", 0);
        EDGES.gives(x, 1, "size", 32768);
        EDGES.refuses(x, 2, "size", 65536);
    }

    private static void askGone() {
        String words = "GONE ones: with a TAKE in it that QUARRELS with nothing in it, and is not what a SETTLE in it leaves out";
        // a 0, t 1, n 2, s 3 (n, not t), u 4 (t, not n), m 5
        SwapBook x = EDGES.begin(22, words, "put a key 1 says 1; take t of a; name n of a says 2; settle s of n not t; settle u of t not n;"
            + "move m of a key 3; put z key 1 says 1; take y of z;");
        EDGES.gives(x, 0, "size", 0b000011);
        EDGES.gives(x, 1, "size", 0b000111);
        EDGES.gives(x, 1, "size", 0b001111);
        EDGES.gives(x, 0, "size", 0b010111);
        EDGES.gives(x, 1, "size", 0b011111);
        EDGES.gives(x, 1, "size", 0b110111);
        EDGES.gives(x, 1, "size", 0b100011);
        EDGES.gives(x, 0, "size", 0b11000000);
        EDGES.gives(x, 1, "size", 0b11000001);
        EDGES.gives(x, 1, "size", 0b11000111);
    }

    private static void askThing() {
        String words = "(2; 9; 8: none such; in this order)";
        for (int set : NO_SETS) {
            EDGES.refused(23, words, 2, "thing", set, -1);
        }
        EDGES.refused(23, words, 9, "thing", 4, 9);
        EDGES.refused(23, words, 8, "thing", 3, 2);
        EDGES.refused(23, words, 8, "thing", 3, -1);
        EDGES.refused(23, words, 8, "thing", 3, Integer.MAX_VALUE);
        EDGES.refused(23, words, 8, "thing", 3, Integer.MIN_VALUE);
        EDGES.refused(23, words, 8, "thing", 0, 0);
        SwapBook x = EDGES.begin(23, "The THING (its PUT) in a place of it", sayingPuts(16));
        EDGES.gives(x, 0, "thing", 65535, 0);
        EDGES.gives(x, 15, "thing", 65535, 15);
        EDGES.refuses(x, 8, "thing", 65535, 16);
        EDGES.gives(x, 15, "thing", 32769, 1);
        EDGES.refuses(x, 8, "thing", 32769, 2);
    }

    private static void askByPut() {
        SwapBook x = EDGES.begin(24, "What a THING, by its PUT, SAYS there", sayingPuts(16));
        EDGES.gives(x, 15, "says", 65535, 15);
        EDGES.gives(x, 0, "says", 65535, 0);
        EDGES.gives(x, 15, "says", 32768, 15);
        x = EDGES.begin(24, "What a THING, by its PUT, SAYS there", "put a key 9 says 11; put b key 5 says 22; put c key 1 says 33;");
        for (int put = 0; put < 3; put++) {
            EDGES.gives(x, 11 * (put + 1), "says", 7, put);
            EDGES.gives(x, 9 - 4 * put, "key", 7, put);
            EDGES.gives(x, 2 - put, "place", 7, put);
        }
        x = EDGES.begin(25, "Its KEY there", sayingPuts(16));
        EDGES.gives(x, 1, "key", 65535, 15);
        EDGES.gives(x, 1, "key", 32768, 15);
        x = EDGES.begin(26, "Its place there", sayingPuts(16));
        EDGES.gives(x, 15, "place", 65535, 15);
        EDGES.gives(x, 0, "place", 65535, 0);
        EDGES.gives(x, 0, "place", 32768, 15);
    }

    private static void askByPutRefused() {
        String words = "8: it is not there, no PUT; in this order";
        for (int i = 0; i < 3; i++) {
            int promise = 24 + i;
            String asked = i == 0 ? words : "(likewise)";
            for (int set : NO_SETS) {
                EDGES.refused(promise, NO_SET, 2, BY_PUT[i], set, 0);
            }
            for (int put : new int[] {-1, 6, 16, 32, Integer.MAX_VALUE, Integer.MIN_VALUE}) {
                EDGES.refused(promise, "2 no such CHANGE", 2, BY_PUT[i], 3, put);
                EDGES.refused(promise, asked, 2, BY_PUT[i], 4, put);
            }
            EDGES.refused(promise, asked, 9, BY_PUT[i], 4, 0);
            EDGES.refused(promise, asked, 9, BY_PUT[i], 4, 2);
            EDGES.refused(promise, asked, 8, BY_PUT[i], 1, 1);
            EDGES.refused(promise, asked, 8, BY_PUT[i], 0, 0);
            EDGES.refused(promise, asked, 8, BY_PUT[i], 7, 2);
            EDGES.refused(promise, asked, 8, BY_PUT[i], 63, 5);
            SwapBook x = EDGES.begin(promise, asked, "put a key 1 says 1; take b of a;");
            EDGES.refuses(x, 8, BY_PUT[i], 3, 0);
            EDGES.refuses(x, 8, BY_PUT[i], 3, 1);
        }
    }

    private static void askHeads() {
        // a 0, b 1, c 2, d 3, s 4 (b, not c), m 5 of d
        String text = "put a key 5 says 10; name b of a says 11; name c of a says 12; name d of b says 13; settle s of b not c;"
            + "move m of d key 6;";
        SwapBook x = EDGES.begin(24, "with one HEAD what that says; with none what the PUT says", text);
        EDGES.gives(x, 10, "says", 0b1, 0);
        EDGES.gives(x, 11, "says", 0b11, 0);
        EDGES.gives(x, 12, "says", 0b101, 0);
        EDGES.gives(x, 13, "says", 0b1011, 0);
        EDGES.gives(x, 13, "says", 0b101011, 0);
        x = EDGES.begin(24, "HEADS are its NAMES in the SET that no SETTLE in it leaves out, and on which no other such NAME in it hangs", text);
        EDGES.gives(x, 10, "says", 0b111, 0);
        EDGES.gives(x, 11, "says", 0b10111, 0);
        EDGES.gives(x, 13, "says", 0b11111, 0);
        // All NAMES are left out: none is a HEAD.
        x = EDGES.begin(24, "with none what the PUT says", "put a key 5 says 10; name b of a says 11; take t of a; settle s of t not b;"
            + "settle u of b not t;");
        EDGES.gives(x, 10, "says", 0b11111, 0);
        EDGES.gives(x, 11, "says", 0b10111, 0);
        EDGES.refuses(x, 8, "says", 0b01111, 0);
        // A NAME that hangs on one left out does not make that one count again.
        x = EDGES.begin(24, "that no SETTLE in it leaves out", "put a key 5 says 10; name b of a says 11; name c of a says 12;"
            + "settle s of b not c; name d of c says 13 after b;");
        EDGES.gives(x, 13, "says", 0b11111, 0);
        EDGES.gives(x, 11, "says", 0b01111, 0);
    }

    private static void askAgreed() {
        String words = "what is said by the last CHANGE (the greatest number) that is the PUT or one of those NAMES and is one that each HEAD hangs on";
        // a 0, b 1, c 2 of b, d 3 and e 4 of c, f 5 of b, g 6 of a
        String text = "put a key 5 says 10; name b of a says 11; name c of b says 12; name d of c says 13; name e of c says 14;"
            + "name f of b says 15; name g of a says 16;";
        SwapBook x = EDGES.begin(24, words, text);
        EDGES.gives(x, 12, "says", 0b0011111, 0);
        EDGES.gives(x, 11, "says", 0b0101111, 0);
        EDGES.gives(x, 11, "says", 0b0111111, 0);
        EDGES.gives(x, 10, "says", 0b1111111, 0);
        EDGES.gives(x, 10, "says", 0b1000011, 0);
        // The PUT is the greatest: the NAMES of another THING, and MOVES, are none of those.
        x = EDGES.begin(24, words, "put z key 1 says 90; name y of z says 91; put a key 5 says 10 after y; move m of a key 9;"
            + "name b of m says 11; name c of m says 12;");
        EDGES.gives(x, 10, "says", 0b111111, 2);
        EDGES.gives(x, 91, "says", 0b111111, 0);
        // What a SETTLE leaves out is none of those.
        x = EDGES.begin(24, words, "put a key 5 says 10; name b of a says 11; name q of a says 19; settle s of q not b; name c of b says 12 after q;"
            + "name d of b says 13 after q;");
        EDGES.gives(x, 19, "says", 0b111111, 0);
    }

    private static void askKeyHeads() {
        String words = "Its KEY likewise by its MOVES.";
        // a 0, b 1, c 2 of b, d 3 of b, s 4 (c, not d), e 5 of a
        SwapBook x = EDGES.begin(25, words, "put a key 10 says 5; move b of a key 11; move c of b key 12; move d of b key 13; settle s of c not d;"
            + "move e of a key 14; name n of b says 99;");
        EDGES.gives(x, 10, "key", 0b1, 0);
        EDGES.gives(x, 11, "key", 0b11, 0);
        EDGES.gives(x, 12, "key", 0b111, 0);
        EDGES.gives(x, 11, "key", 0b1111, 0);
        EDGES.gives(x, 12, "key", 0b11111, 0);
        EDGES.gives(x, 10, "key", 0b111111, 0);
        EDGES.gives(x, 11, "key", 0b1000011, 0);
        EDGES.gives(x, 99, "says", 0b1000011, 0);
        EDGES.gives(x, 5, "says", 0b111111, 0);
    }

    private static void askOrderOfKeys() {
        String words = "The LIST goes by KEYS, of like ones by PUTS' numbers.";
        SwapBook x = EDGES.begin(26, words, "put a key 9999 says 1; put b key 0 says 1; put c key 7 says 1; put d key 7 says 1;"
            + "move e of d key 6; move f of a key 7; put g key 7 says 1;");
        int[] places = {3, 0, 1, 2};
        for (int put = 0; put < 4; put++) {
            EDGES.gives(x, places[put], "place", 0b1111, put);
            EDGES.gives(x, put, "thing", 0b1111, places[put]);
        }
        EDGES.gives(x, 1, "place", 0b11111, 3);
        EDGES.gives(x, 2, "place", 0b11111, 2);
        EDGES.gives(x, 1, "place", 0b1101111, 0);
        EDGES.gives(x, 4, "place", 0b1101111, 6);
    }

    private static void askLike() {
        for (int set : NO_SETS) {
            EDGES.refused(27, NO_SET, 2, "like", set, 4);
            EDGES.refused(27, NO_SET, 2, "like", 4, set);
        }
        EDGES.refused(27, "(2; 9: either)", 9, "like", 4, 1);
        EDGES.refused(27, "(2; 9: either)", 9, "like", 1, 4);
        EDGES.gives(EDGES.begin(27, "1 if two SETS are LIKE, else 0"), 1, "like", 0, 0);
        // a 0, b 1 says the same, c 2 another number, m 3 to the same key, n 4 to another, t 5, z 6
        SwapBook x = EDGES.begin(27, "the same THINGS, numbers and KEYS in all places, and in which the same couples QUARREL",
            "put a key 5 says 1; name b of a says 1; name c of a says 2; move m of a key 5; move n of a key 6; take t of a;"
            + "put z key 5 says 1;");
        EDGES.gives(x, 1, "like", 0b1, 0b11);
        EDGES.gives(x, 0, "like", 0b1, 0b101);
        EDGES.gives(x, 1, "like", 0b1, 0b1001);
        EDGES.gives(x, 0, "like", 0b1, 0b10001);
        EDGES.gives(x, 1, "like", 0, 0b100001);
        EDGES.gives(x, 0, "like", 0, 0b1);
        EDGES.gives(x, 0, "like", 0b1, 0);
        EDGES.gives(x, 0, "like", 0b1, 0b1000000);
        EDGES.gives(x, 0, "like", 0b1, 0b1000001);
        EDGES.gives(x, 0, "like", 0b1, 0b111);
        EDGES.gives(x, 0, "like", 0b11001, 0b111);
        EDGES.gives(x, 1, "like", 0b111, 0b1111);
    }

    private static void askApart() {
        for (int set : NO_SETS) {
            EDGES.refused(28, NO_SET, 2, "apart", set, 4);
            EDGES.refused(28, NO_SET, 2, "apart", 4, set);
        }
        EDGES.refused(28, "(2; 9: either; 8: nowhere; in this order)", 9, "apart", 4, 1);
        EDGES.refused(28, "(2; 9: either; 8: nowhere; in this order)", 9, "apart", 1, 4);
        EDGES.refused(28, "(2; 9: either; 8: nowhere; in this order)", 9, "apart", 4, 4);
        EDGES.refused(28, "(2; 9: either; 8: nowhere; in this order)", 8, "apart", 7, 7);
        EDGES.refusedIn(SwapBook::new, 28, "8: nowhere", 8, "apart", 0, 0);
        SwapBook x = EDGES.begin(28, "one being there, the other not", sayingPuts(16));
        EDGES.gives(x, 0, "apart", 0, 1);
        EDGES.gives(x, 0, "apart", 1, 0);
        EDGES.gives(x, 15, "apart", 65535, 32767);
        EDGES.gives(x, 15, "apart", 32767, 65535);
        EDGES.gives(x, 14, "apart", 32767 | 32768, 65535 & ~16384);
        x = EDGES.begin(28, "APART: the first place in which their LISTS differ (a THING, what it SAYS;",
            "put a key 5 says 1; put b key 5 says 1; name c of b says 2; name d of b says 1; move e of b key 6; name f of a says 3;");
        EDGES.gives(x, 0, "apart", 0b1, 0b10);
        EDGES.gives(x, 1, "apart", 0b11, 0b111);
        EDGES.refuses(x, 8, "apart", 0b11, 0b1011);
        EDGES.refuses(x, 8, "apart", 0b11, 0b10011);
        EDGES.gives(x, 0, "apart", 0b100011, 0b111);
    }
}
