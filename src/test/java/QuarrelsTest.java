// Promises 29 to 32: QUARRELS.
public final class QuarrelsTest {
    private static final Check CHECK = new Check("QuarrelsTest");

    public static void main(String[] args) {
        askQuarrels();
        askLeastOut();
        askMany();
        CHECK.end();
    }

    private static void askQuarrels() {
        SwapBook x = new SwapBook();
        // a 0, n 1, o 2, m 3, t 4, u 5, s 6 (settles n and o).
        Check.book(x, "put a key 1 says 1; name n of a says 2; name o of a says 3; move m of a key 4; take t of a; take u of n;"
            + "settle s of n not o;");
        CHECK.due(x, "quarrels(0)", x.quarrels(0), 0, 0);
        CHECK.due(x, "names", x.quarrels(7), 1, 0);
        CHECK.due(x, "settled", x.quarrels(71), 0, 0);
        CHECK.due(x, "name and move", x.quarrels(11), 0, 0);
        CHECK.due(x, "take with both", x.quarrels(27), 2, 0);
        CHECK.due(x, "two takes", x.quarrels(48), 0, 0);
        CHECK.due(x, "u hangs on n", x.quarrels(34), 0, 0);
        CHECK.due(x, "u and o, in what does not hold", x.quarrels(36), 1, 0);
        CHECK.due(x, "a settle alone", x.quarrels(70), 0, 0);
        CHECK.due(x, "all", x.quarrels(127), 5, 0);
        CHECK.due(x, "set", x.quarrels(128), -1, 2);
        CHECK.due(x, "with(127, 1)", x.with(127, 1), 16, 0);
        CHECK.due(x, "with(63, 1)", x.with(63, 1), 20, 0);
        CHECK.due(x, "with(127, 2)", x.with(127, 2), 48, 0);
        CHECK.due(x, "with(127, 4)", x.with(127, 4), 14, 0);
        CHECK.due(x, "with(127, 0)", x.with(127, 0), 0, 0);
        CHECK.due(x, "with(127, 6)", x.with(127, 6), 0, 0);
        CHECK.due(x, "not in it", x.with(1, 1), -1, 8);
        CHECK.due(x, "no change", x.with(1, 7), -1, 2);
        CHECK.due(x, "no change", x.with(1, -1), -1, 2);
        CHECK.due(x, "set", x.with(128, 0), -1, 2);
    }

    private static void askLeastOut() {
        SwapBook x = new SwapBook();
        CHECK.due(x, "leastOut(0)", x.leastOut(0), 0, 0);
        CHECK.due(x, "mostQuiet()", x.mostQuiet(), 0, 0);
        // a 0, b 1 with c 2 and d 3 behind it, e 4 quarrels with b: e goes, not b, c and d.
        Check.book(x, "put a key 1 says 1; name b of a says 2; name c of b says 3; name d of c says 4; name e of a says 5;");
        CHECK.due(x, "leastOut(31)", x.leastOut(31), 16, 0);
        CHECK.due(x, "of two the least", x.leastOut(19), 2, 0);
        CHECK.due(x, "quiet", x.leastOut(15), 0, 0);
        CHECK.due(x, "mostQuiet()", x.mostQuiet(), 4, 0);
        CHECK.due(x, "set", x.leastOut(32), -1, 2);
        CHECK.due(x, "set", x.leastOut(-1), -1, 2);
        CHECK.due(x, "holds", x.leastOut(4), -1, 9);
        // Taking f out takes the settle g out, too: so b and c quarrel again.
        Check.book(x, "put a key 1 says 1; name b of a says 2; name c of a says 3; put d key 1 says 1; name e of d says 2;"
            + "name f of d says 2; settle g of b not c after f; name h of e says 1; name i of h says 1;");
        CHECK.due(x, "f, g and b, or e, h and i", x.leastOut(511), 98, 0);
        CHECK.due(x, "mostQuiet()", x.mostQuiet(), 6, 0);
    }

    private static void askMany() {
        SwapBook x = new SwapBook();
        StringBuilder text = new StringBuilder("put a key 1 says 1;");
        for (int i = 1; i < 16; i++) {
            text.append(i < 11 ? "name " : "take ").append((char) ('a' + i)).append(" of a").append(i < 11 ? " says 1;" : ";");
        }
        Check.book(x, text.toString());
        CHECK.due(x, "quarrels", x.quarrels(65535), 45 + 50, 0);
        CHECK.due(x, "all names go", x.leastOut(65535), 2046, 0);
        CHECK.due(x, "mostQuiet()", x.mostQuiet(), 6, 0);
        CHECK.due(x, "ten names", x.leastOut(2047), 1022, 0);
    }
}
