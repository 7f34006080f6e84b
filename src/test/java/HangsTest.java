// Promises 15 to 21: what hangs on what.
public final class HangsTest {
    private static final Check CHECK = new Check("HangsTest");

    public static void main(String[] args) {
        SwapBook x = new SwapBook();
        // a 0, b 1, c 2, d 3, e 4, f 5: e hangs on d, c, a by its of, f on b alone.
        Check.book(x, "put a key 1 says 1; put b key 2 says 2; name c of a says 3; name d of a says 4 after b;"
            + "settle e of c not d; put f key 1 says 1;");
        askHangs(x);
        askSets(x);
        CHECK.due(x, "heaviest()", x.heaviest(), 0, 0);
        CHECK.due(x, "alone()", x.alone(), 32, 0);
        askOthers();
        CHECK.end();
    }

    private static void askHangs(SwapBook x) {
        int[][] due = {{0, 0, 28}, {0, 0, 24}, {1, 1, 16}, {3, 3, 16}, {12, 15, 0}, {0, 0, 0}};
        for (int c = 0; c < due.length; c++) {
            for (int what = 0; what < 3; what++) {
                CHECK.due(x, "hangs(" + c + ", " + what + ")", x.hangs(c, what), due[c][what], 0);
            }
        }
        CHECK.due(x, "hangs(6, 9)", x.hangs(6, 9), -1, 2);
        CHECK.due(x, "hangs(-1, 0)", x.hangs(-1, 0), -1, 2);
        CHECK.due(x, "hangs(0, 3)", x.hangs(0, 3), -1, 5);
        CHECK.due(x, "hangs(0, -1)", x.hangs(0, -1), -1, 5);
    }

    private static void askSets(SwapBook x) {
        CHECK.due(x, "holds(0)", x.holds(0), 1, 0);
        CHECK.due(x, "holds(63)", x.holds(63), 1, 0);
        CHECK.due(x, "holds(9)", x.holds(9), 0, 0);
        CHECK.due(x, "holds(11)", x.holds(11), 1, 0);
        CHECK.due(x, "holds(64)", x.holds(64), -1, 2);
        CHECK.due(x, "holds(-1)", x.holds(-1), -1, 2);
        CHECK.due(x, "lacks(16)", x.lacks(16), 15, 0);
        CHECK.due(x, "lacks(8)", x.lacks(8), 3, 0);
        CHECK.due(x, "lacks(63)", x.lacks(63), 0, 0);
        CHECK.due(x, "lacks(64)", x.lacks(64), -1, 2);
        CHECK.due(x, "out(63, 1)", x.out(63, 1), 37, 0);
        CHECK.due(x, "out(63, 5)", x.out(63, 5), 31, 0);
        CHECK.due(x, "out(37, 1)", x.out(37, 1), 37, 0);
        CHECK.due(x, "out of what does not hold", x.out(24, 1), 0, 0);
        CHECK.due(x, "out(64, 1)", x.out(64, 1), -1, 2);
        CHECK.due(x, "out(1, 6)", x.out(1, 6), -1, 2);
        CHECK.due(x, "out(1, -1)", x.out(1, -1), -1, 2);
        CHECK.due(x, "pick(32, 3)", x.pick(32, 3), 43, 0);
        CHECK.due(x, "pick(8, 5)", x.pick(8, 5), 40, 0);
        CHECK.due(x, "pick(64, 1)", x.pick(64, 1), -1, 2);
        CHECK.due(x, "pick(1, 6)", x.pick(1, 6), -1, 2);
        CHECK.due(x, "pick(1, -1)", x.pick(1, -1), -1, 2);
    }

    private static void askOthers() {
        SwapBook x = new SwapBook();
        CHECK.due(x, "heaviest() of none", x.heaviest(), -1, 8);
        CHECK.due(x, "alone() of none", x.alone(), 0, 0);
        Check.book(x, "put a key 1 says 1; put b key 1 says 1; take c of b; take d of a;");
        CHECK.due(x, "heaviest() of two", x.heaviest(), 0, 0);
        Check.book(x, "put a key 1 says 1; put b key 1 says 1; take c of b; put d key 1 says 1;");
        CHECK.due(x, "heaviest()", x.heaviest(), 1, 0);
        CHECK.due(x, "alone()", x.alone(), 9, 0);
        StringBuilder chain = new StringBuilder("put a key 1 says 1;");
        for (int i = 1; i < 16; i++) {
            chain.append("name ").append((char) ('a' + i)).append(" of ").append((char) ('a' + i - 1)).append(" says 1;");
        }
        Check.book(x, chain.toString());
        CHECK.due("level", x.change(15, 4), 15);
        CHECK.due("hangs", x.hangs(15, 1), 32767);
        CHECK.due("hanging", x.hangs(0, 2), 65534);
        CHECK.due(x, "holds(65535)", x.holds(65535), 1, 0);
        CHECK.due(x, "holds(65536)", x.holds(65536), -1, 2);
        CHECK.due("lacks(32768)", x.lacks(32768), 32767);
    }
}
