// Promises 2 and 5 to 8.
public final class TraysTest {
    private static final Check CHECK = new Check("TraysTest");

    public static void main(String[] args) {
        askTray();
        askWriteAndRead();
        askPour();
        CHECK.end();
    }

    private static void askTray() {
        SwapBook x = new SwapBook();
        CHECK.due(x, "tray(-1, 0, 1)", x.tray(-1, 0, 1), false, 1);
        CHECK.due(x, "tray(4, 0, 1)", x.tray(4, 0, 1), false, 1);
        CHECK.due(x, "tray(0, -1, 1)", x.tray(0, -1, 1), false, 1);
        CHECK.due(x, "tray(0, 4, 1)", x.tray(0, 4, 1), false, 1);
        CHECK.due(x, "tray(0, 4, 61)", x.tray(0, 4, 61), false, 1);
        CHECK.due(x, "tray(0, 0, 61)", x.tray(0, 0, 61), false, 5);
        CHECK.due(x, "tray(0, 0, -1)", x.tray(0, 0, -1), false, 6);
        CHECK.due(x, "read(0, 0)", x.read(0, 0), -1, 3);
        CHECK.due(x, "tray(0, 0, 0)", x.tray(0, 0, 0), true, 0);
        CHECK.due(x, "read(0, 0)", x.read(0, 0), -1, 4);
        CHECK.due(x, "tray(3, 3, 60)", x.tray(3, 3, 60), true, 0);
        CHECK.due(x, "write(3, 59, 7)", x.write(3, 59, 7), true, 0);
        CHECK.due(x, "tray(3, 3, 61)", x.tray(3, 3, 61), false, 5);
        CHECK.due(x, "read(3, 59)", x.read(3, 59), 7, 0);
        CHECK.due(x, "tray(3, 2, 60)", x.tray(3, 2, 60), true, 0);
        CHECK.due(x, "read(3, 59) of a new row", x.read(3, 59), 0, 0);
        CHECK.due(x, "read(3, 60)", x.read(3, 60), -1, 4);
    }

    private static void askWriteAndRead() {
        SwapBook x = new SwapBook();
        long v = 0x1234_5678_9abc_def0L;
        long[] cut = {(byte) v, (short) v, (int) v, v};
        for (int sort = 0; sort < 4; sort++) {
            CHECK.due("tray", x.tray(sort, sort, 2), true);
            CHECK.due(x, "write", x.write(sort, 1, v), true, 0);
            CHECK.due(x, "read", x.read(sort, 1), cut[sort], 0);
            CHECK.due(x, "read beside", x.read(sort, 0), 0, 0);
            CHECK.due(x, "write -1", x.write(sort, 0, -1), true, 0);
            CHECK.due(x, "read -1", x.read(sort, 0), -1, 0);
            CHECK.due(x, "write(2)", x.write(sort, 2, 1), false, 4);
            CHECK.due(x, "write(-1)", x.write(sort, -1, 1), false, 4);
            CHECK.due(x, "read(2)", x.read(sort, 2), -1, 4);
            CHECK.due(x, "read(-1)", x.read(sort, -1), -1, 4);
        }
        x.write(0, 0, 128);
        CHECK.due("128 in 8 bits", x.read(0, 0), -128);
        x.write(1, 0, 32768);
        CHECK.due("32768 in 16 bits", x.read(1, 0), -32768);
        SwapBook y = new SwapBook();
        CHECK.due(y, "write(4, 0, 1)", y.write(4, 0, 1), false, 1);
        CHECK.due(y, "write(-1, 0, 1)", y.write(-1, 0, 1), false, 1);
        CHECK.due(y, "write(0, -1, 1)", y.write(0, -1, 1), false, 3);
        CHECK.due(y, "read(4, 0)", y.read(4, 0), -1, 1);
        CHECK.due(y, "read(-1, 0)", y.read(-1, 0), -1, 1);
    }

    private static SwapBook twoRows() {
        SwapBook x = new SwapBook();
        x.tray(0, 1, 6);
        x.tray(1, 1, 4);
        x.tray(2, 2, 6);
        for (int i = 0; i < 6; i++) {
            x.write(0, i, 10 + i);
        }
        return x;
    }

    private static void askRow(SwapBook x, int tray, int... row) {
        for (int i = 0; i < row.length; i++) {
            CHECK.due("row " + tray + " at " + i, x.read(tray, i), row[i]);
        }
    }

    private static void askPour() {
        SwapBook x = twoRows();
        CHECK.due(x, "pour", x.pour(0, 2, 1, 1, 3), true, 0);
        askRow(x, 1, 0, 12, 13, 14);
        askRow(x, 0, 10, 11, 12, 13, 14, 15);
        CHECK.due(x, "pour up in one row", x.pour(0, 0, 0, 1, 5), true, 0);
        askRow(x, 0, 10, 10, 11, 12, 13, 14);
        x = twoRows();
        CHECK.due(x, "pour down in one row", x.pour(0, 1, 0, 0, 5), true, 0);
        askRow(x, 0, 11, 12, 13, 14, 15, 15);
        CHECK.due(x, "pour nothing", x.pour(0, 0, 1, 0, 0), true, 0);
        CHECK.due(x, "no tray", x.pour(4, 0, 1, 0, 1), false, 1);
        CHECK.due(x, "no tray to", x.pour(3, 0, -1, 0, 1), false, 1);
        CHECK.due(x, "missing", x.pour(3, 0, 2, 0, -1), false, 3);
        CHECK.due(x, "missing to", x.pour(0, 0, 3, 0, -1), false, 3);
        CHECK.due(x, "unlike", x.pour(0, -1, 2, 0, -1), false, 11);
        CHECK.due(x, "below 0", x.pour(0, -1, 1, 0, -1), false, 6);
        CHECK.due(x, "place", x.pour(0, -1, 1, 0, 1), false, 4);
        CHECK.due(x, "place to", x.pour(0, 0, 1, -1, 1), false, 4);
        CHECK.due(x, "too few", x.pour(0, 3, 1, 0, 4), false, 4);
        CHECK.due(x, "too few to", x.pour(0, 0, 1, 1, 4), false, 4);
        CHECK.due(x, "far too many", x.pour(0, 1, 1, 1, Integer.MAX_VALUE), false, 4);
        CHECK.due(x, "far off", x.pour(0, Integer.MAX_VALUE, 1, 0, 1), false, 4);
        askRow(x, 1, 0, 0, 0, 0);
    }
}
