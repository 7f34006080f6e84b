// Promises 22 to 28: LISTS.
public final class ListsTest {
    private static final Check CHECK = new Check("ListsTest");

    public static void main(String[] args) {
        askOrderOfKeys();
        askTakes();
        askHeads();
        askKeys();
        askWrong();
        askLike();
        askApart();
        CHECK.end();
    }

    private static SwapBook bookOf(String text) {
        SwapBook x = new SwapBook();
        CHECK.due(text, Check.book(x, text) > 0, true);
        return x;
    }

    private static void askOrderOfKeys() {
        SwapBook x = bookOf("put a key 5 says 1; put b key 3 says 2; put c key 5 says 3; put d key 9999 says 0; put e key 0 says 9999;");
        int[] order = {4, 1, 0, 2, 3};
        CHECK.due(x, "size(31)", x.size(31), 5, 0);
        for (int k = 0; k < 5; k++) {
            CHECK.due(x, "thing", x.thing(31, k), order[k], 0);
            CHECK.due(x, "place", x.place(31, order[k]), k, 0);
        }
        CHECK.due(x, "size(0)", x.size(0), 0, 0);
        CHECK.due(x, "thing(5, 1)", x.thing(5, 1), 2, 0);
        CHECK.due(x, "says(16, 4)", x.says(16, 4), 9999, 0);
        CHECK.due(x, "key(8, 3)", x.key(8, 3), 9999, 0);
    }

    private static void askTakes() {
        // a 0, t 1, n 2, s 3 (the name wins), u 4 (the take wins), v 5 a take behind the name.
        SwapBook x = bookOf("put a key 1 says 1; take t of a; name n of a says 2; settle s of n not t; settle u of t not n;"
            + "take v of n;");
        CHECK.due("taken", x.size(3), 0);
        CHECK.due("a quarrel keeps it", x.size(7), 1);
        CHECK.due("what the name says in the quarrel", x.says(7, 0), 2);
        CHECK.due("the take is left out", x.size(15), 1);
        CHECK.due("the name holds", x.says(15, 0), 2);
        CHECK.due("the take holds", x.size(23), 0);
        CHECK.due("both are left out", x.size(31), 1);
        CHECK.due("so the put tells", x.says(31, 0), 1);
        CHECK.due("another take", x.size(37), 0);
        CHECK.due("another take beside a quarrel", x.size(39), 0);
        CHECK.due("another take beside one left out", x.size(47), 0);
    }

    private static void askHeads() {
        // a 0, b 1, c 2 (of b), d 3 (of b), e 4 (of c), f 5 (settles c, not d), g 6 (of a).
        SwapBook x = bookOf("put a key 1 says 10; name b of a says 20; name c of b says 30; name d of b says 40;"
            + "name e of c says 50; settle f of c not d; name g of a says 60;");
        CHECK.due("the put alone", x.says(1, 0), 10);
        CHECK.due("one head", x.says(3, 0), 20);
        CHECK.due("a chain", x.says(7, 0), 30);
        CHECK.due("two heads: b was agreed", x.says(15, 0), 20);
        CHECK.due("e and d: b was agreed", x.says(31, 0), 20);
        CHECK.due("settled", x.says(47, 0), 30);
        CHECK.due("settled, and e behind", x.says(63, 0), 50);
        CHECK.due("g and e: the put was agreed", x.says(127, 0), 10);
        // d is left out though e hangs on it by after; e is the head.
        SwapBook y = bookOf("put a key 1 says 10; name b of a says 20; name c of a says 30; settle d of b not c;"
            + "name e of c says 40; name f of c says 50;");
        CHECK.due("left out", y.says(15, 0), 20);
        CHECK.due("b, e and f are heads", y.says(63, 0), 10);
        CHECK.due("e and b are heads", y.says(31, 0), 10);
        // What was agreed must not be what was left out.
        SwapBook z = bookOf("put a key 1 says 10; name b of a says 20; take t of a; settle s of t not b;"
            + "name c of b says 30; name d of b says 40;");
        CHECK.due("b is left out, so the put was agreed", z.says(63, 0), 10);
        CHECK.due("without the settle b was agreed", z.says(55, 0), 20);
    }

    private static void askKeys() {
        // a 0, b 1, m 2, n 3, o 4 (settles n, not m), p 5 behind n.
        SwapBook x = bookOf("put a key 5 says 1; put b key 4 says 2; move m of a key 3; move n of a key 6; settle o of n not m;"
            + "move p of n key 4; name q of m says 7;");
        CHECK.due("key", x.key(3, 0), 5);
        CHECK.due("moved", x.key(7, 0), 3);
        CHECK.due("moved ahead", x.place(7, 0), 0);
        CHECK.due("two moves: that of the put", x.key(15, 0), 5);
        CHECK.due("settled", x.key(31, 0), 6);
        CHECK.due("like keys go by puts", x.key(63, 0), 4);
        CHECK.due("like keys go by puts", x.place(63, 0), 0);
        CHECK.due("a name behind a move is no move", x.key(71, 0), 3);
        CHECK.due("nor a move a name", x.says(71, 0), 7);
    }

    private static void askWrong() {
        SwapBook x = bookOf("put a key 5 says 1; take b of a; put c key 1 says 1;");
        CHECK.due(x, "size(8)", x.size(8), -1, 2);
        CHECK.due(x, "size(-1)", x.size(-1), -1, 2);
        CHECK.due(x, "size(2)", x.size(2), -1, 9);
        CHECK.due(x, "thing(8, 0)", x.thing(8, 0), -1, 2);
        CHECK.due(x, "thing(2, 5)", x.thing(2, 5), -1, 9);
        CHECK.due(x, "thing(1, 1)", x.thing(1, 1), -1, 8);
        CHECK.due(x, "thing(1, -1)", x.thing(1, -1), -1, 8);
        for (int ask = 0; ask < 3; ask++) {
            CHECK.due(x, "set", ask(x, ask, 8, 0), -1, 2);
            CHECK.due(x, "change", ask(x, ask, 2, 3), -1, 2);
            CHECK.due(x, "change", ask(x, ask, 1, -1), -1, 2);
            CHECK.due(x, "does not hold", ask(x, ask, 2, 1), -1, 9);
            CHECK.due(x, "no put", ask(x, ask, 3, 1), -1, 8);
            CHECK.due(x, "gone", ask(x, ask, 3, 0), -1, 8);
            CHECK.due(x, "not in it", ask(x, ask, 1, 2), -1, 8);
        }
    }

    private static int ask(SwapBook x, int ask, int set, int put) {
        return ask == 0 ? x.says(set, put) : ask == 1 ? x.key(set, put) : x.place(set, put);
    }

    private static void askLike() {
        // a 0, b 1 and c 2 say the same; d 3 moves to the same key; e 4 takes it.
        SwapBook x = bookOf("put a key 5 says 1; name b of a says 1; name c of a says 1; move d of a key 5; move e of a key 6;");
        CHECK.due(x, "the same", x.like(1, 3), 1, 0);
        CHECK.due(x, "the same by others", x.like(3, 5), 1, 0);
        CHECK.due(x, "one quarrels", x.like(1, 7), 0, 0);
        CHECK.due(x, "a move to the same key", x.like(1, 9), 1, 0);
        CHECK.due(x, "another key", x.like(1, 17), 0, 0);
        CHECK.due(x, "nothing", x.like(0, 1), 0, 0);
        CHECK.due(x, "set", x.like(32, 2), -1, 2);
        CHECK.due(x, "set", x.like(2, -1), -1, 2);
        CHECK.due(x, "holds", x.like(2, 1), -1, 9);
        CHECK.due(x, "holds", x.like(1, 2), -1, 9);
    }

    private static void askApart() {
        SwapBook x = bookOf("put a key 5 says 1; put b key 7 says 1; name c of b says 1; name d of b says 2; move e of b key 3;"
            + "move f of b key 8;");
        CHECK.due(x, "none and one", x.apart(0, 1), 0, 0);
        CHECK.due(x, "one more", x.apart(1, 3), 1, 0);
        CHECK.due(x, "one less", x.apart(3, 1), 1, 0);
        CHECK.due(x, "the same said", x.apart(3, 7), -1, 8);
        CHECK.due(x, "said otherwise", x.apart(3, 11), 1, 0);
        CHECK.due(x, "another thing", x.apart(3, 19), 0, 0);
        CHECK.due(x, "another key alone", x.apart(3, 35), -1, 8);
        CHECK.due(x, "set", x.apart(64, 4), -1, 2);
        CHECK.due(x, "set", x.apart(4, 64), -1, 2);
        CHECK.due(x, "holds", x.apart(4, 0), -1, 9);
        CHECK.due(x, "holds", x.apart(0, 4), -1, 9);
    }
}
