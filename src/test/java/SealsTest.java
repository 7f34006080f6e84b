// Promises 48 and 49: SEALED rows.
public final class SealsTest {
    private static final Check CHECK = new Check("SealsTest");
    // kinds 0, 2, 1, 3, 4, 0
    private static final String TEXT = "put a key 1 says 1; name b of a says 2; take c of a; move d of b key 3; settle e of b not c;"
        + "put f key 1 says 1;";

    public static void main(String[] args) {
        askSeal();
        askOpen();
        askLarge();
        CHECK.end();
    }

    private static SwapBook bookOf(String text) {
        SwapBook x = new SwapBook();
        Check.book(x, text);
        return x;
    }

    private static void askRow(SwapBook x, int tray, long... row) {
        for (int i = 0; i < row.length; i++) {
            CHECK.due("row " + tray + " at " + i, x.read(tray, i), row[i]);
        }
    }

    private static void askSeal() {
        SwapBook x = bookOf(TEXT);
        x.tray(0, 1, 9);
        x.tray(1, 0, 9);
        x.tray(2, 3, 4);
        CHECK.due(x, "seal(0, 63)", x.seal(0, 63), 9, 0);
        askRow(x, 0, 1, 6, 0, 7, 11, 18, 24, 25, 1 + 6 + 7 + 11 + 18 + 24 + 25);
        CHECK.due(x, "open(0)", x.open(0), 63, 0);
        CHECK.due(x, "seal(0, 33)", x.seal(0, 33), 5, 0);
        askRow(x, 0, 1, 2, 0, 25, 28, 18, 24, 25, 92);
        CHECK.due(x, "open(0)", x.open(0), 33, 0);
        CHECK.due(x, "no tray", x.seal(4, 64), -1, 1);
        CHECK.due(x, "no tray", x.seal(-1, 64), -1, 1);
        CHECK.due(x, "set", x.seal(3, 64), -1, 2);
        CHECK.due(x, "set", x.seal(3, -1), -1, 2);
        CHECK.due(x, "missing", x.seal(3, 2), -1, 3);
        CHECK.due(x, "too few", x.seal(2, 6), -1, 4);
        CHECK.due(x, "8 bits", x.seal(1, 2), -1, 5);
        CHECK.due(x, "does not hold", x.seal(2, 2), -1, 9);
        askRow(x, 2, 0, 0, 0, 0);
        CHECK.due(x, "seal(2, 1)", x.seal(2, 1), 4, 0);
        askRow(x, 2, 1, 1, 0, 2);
        CHECK.due(x, "seal(2, 0)", x.seal(2, 0), 3, 0);
        askRow(x, 2, 1, 0, 1, 2);
        CHECK.due(x, "open(2)", x.open(2), 0, 0);
    }

    private static void opened(SwapBook x, int set, int status, long... row) {
        x.tray(3, 3, row.length);
        for (int i = 0; i < row.length; i++) {
            x.write(3, i, row[i]);
        }
        CHECK.due(x, "open " + java.util.Arrays.toString(row), x.open(3), set, status);
    }

    private static void askOpen() {
        SwapBook x = bookOf(TEXT);
        CHECK.due(x, "no tray", x.open(4), -1, 1);
        CHECK.due(x, "no tray", x.open(-1), -1, 1);
        CHECK.due(x, "missing", x.open(0), -1, 3);
        opened(x, -1, 4);
        opened(x, -1, 4, 1, 0);
        opened(x, 0, 0, 1, 0, 1);
        opened(x, 0, 0, 1, 0, 1, 77);
        opened(x, -1, 9, 0, 0, 0);
        opened(x, -1, 9, 2, 0, 2);
        opened(x, -1, 9, 1, 0, 2);
        opened(x, -1, 9, 1, -1, 0);
        opened(x, -1, 4, 1, 1, 0);
        opened(x, 1, 0, 1, 1, 0, 2);
        opened(x, 32, 0, 1, 1, 25, 27);
        opened(x, 33, 0, 1, 2, 0, 25, 28);
        opened(x, -1, 9, 1, 2, 25, 0, 28);
        opened(x, -1, 9, 1, 2, 0, 0, 3);
        opened(x, -1, 9, 1, 1, 1, 3);
        opened(x, -1, 9, 1, 1, 30, 32);
        opened(x, -1, 9, 1, 1, -5, -3);
        opened(x, -1, 9, 1, 1, 7, 9);
        opened(x, 3, 0, 1, 2, 0, 7, 10);
        opened(x, -1, 9, 1, 2, 0, 7, 261);
        opened(x, -1, 9, 1, 7, 0, 7, 11, 18, 24, 25, 30, 123, 0);
        askHeads(x);
    }

    // Fewer than three numbers are 4 whatever they are; from three on a row that does not begin as
    // what is SEALED does is 9, however many numbers its second one asks for.
    private static void askHeads(SwapBook x) {
        opened(x, -1, 4, 0);
        opened(x, -1, 4, 0, 1);
        opened(x, -1, 4, 2, 99);
        for (long head : new long[] {0, 2, -1, 257, 1L << 32 | 1, Long.MIN_VALUE | 1}) {
            opened(x, -1, 9, head, 1, 0);
            opened(x, -1, 9, head, 6, 0, 7);
            opened(x, -1, 9, head, 99, 0);
            opened(x, -1, 9, head, -1, 0);
        }
        opened(x, -1, 4, 1, 6, 0, 7, 11, 18, 24, 25);
        opened(x, 63, 0, 1, 6, 0, 7, 11, 18, 24, 25, 92);
        opened(x, -1, 4, 1, 16, 0);
        opened(x, -1, 9, 1, 17, 0);
        opened(x, -1, 9, 1, 1L << 32, 1);
        opened(x, -1, 9, 1, Long.MAX_VALUE, 1);
        opened(x, -1, 9, 1, Long.MIN_VALUE, 1);
        SwapBook bare = new SwapBook();
        opened(bare, -1, 9, 0, 1, 0);
        opened(bare, -1, 4, 1, 1, 0);
        opened(bare, -1, 9, 1, 1, 0, 2);
        opened(bare, 0, 0, 1, 0, 1);
    }

    private static void askLarge() {
        StringBuilder text = new StringBuilder();
        for (int i = 0; i < 16; i++) {
            text.append("put ").append((char) ('a' + i)).append(" key 1 says 1;");
        }
        SwapBook x = bookOf(text.toString());
        x.tray(0, 2, 19);
        CHECK.due(x, "seal of 16", x.seal(0, 65535), 19, 0);
        CHECK.due("what is left", x.read(0, 18), (1 + 16 + 5 * 120) % 251);
        CHECK.due(x, "open of 16", x.open(0), 65535, 0);
        Check.book(x, TEXT);
        CHECK.due(x, "by another book", x.open(0), -1, 9);
    }
}
