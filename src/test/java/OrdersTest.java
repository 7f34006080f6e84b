// Promises 3, 4 and 33 to 42: ORDERS and the FRACTION.
public final class OrdersTest {
    private static final Check CHECK = new Check("OrdersTest");
    // a 0, b 1, c 2 (of a), d 3 (of b, after a).
    private static final String TEXT = "put a key 5 says 1; put b key 3 says 2; move c of a key 1; take d of b after a;";

    public static void main(String[] args) {
        askOrders();
        askLarge();
        askOrdered();
        askOrder();
        askActs();
        askSwap();
        CHECK.end();
    }

    private static SwapBook bookOf(String text) {
        SwapBook x = new SwapBook();
        Check.book(x, text);
        return x;
    }

    private static void askFraction(SwapBook x, int set, int a, int b, long top, long bottom) {
        CHECK.due(x, "ahead", x.ahead(set, a, b), true, 0);
        CHECK.due("top()", x.top(), top);
        CHECK.due("bottom()", x.bottom(), bottom);
    }

    private static void askOrders() {
        SwapBook x = bookOf(TEXT);
        // 0123 0132 0213 1023 1032
        CHECK.due(x, "orders(15)", x.orders(15), 5, 0);
        CHECK.due(x, "orders(0)", x.orders(0), 1, 0);
        CHECK.due(x, "orders(16)", x.orders(16), -1, 2);
        CHECK.due(x, "orders(-1)", x.orders(-1), -1, 2);
        CHECK.due(x, "orders(12)", x.orders(12), -1, 9);
        askFraction(x, 15, 0, 1, 3, 5);
        askFraction(x, 15, 1, 0, 2, 5);
        askFraction(x, 15, 2, 3, 3, 5);
        askFraction(x, 15, 0, 3, 1, 1);
        askFraction(x, 15, 3, 0, 0, 1);
        askFraction(x, 3, 1, 0, 1, 2);
        CHECK.due(x, "one", x.ahead(15, 1, 1), false, 2);
        CHECK.due(x, "not in it", x.ahead(3, 0, 2), false, 2);
        CHECK.due(x, "not in it", x.ahead(3, 2, 0), false, 2);
        CHECK.due(x, "no change", x.ahead(15, 4, 0), false, 2);
        CHECK.due(x, "no change", x.ahead(15, 0, -1), false, 2);
        CHECK.due(x, "no change", x.ahead(15, 32, 1), false, 2);
        CHECK.due(x, "no change", x.ahead(15, 1, 32), false, 2);
        CHECK.due(x, "set", x.ahead(16, 0, 1), false, 2);
        CHECK.due(x, "set", x.ahead(19, 0, 1), false, 2);
        CHECK.due(x, "set", x.ahead(-1, 0, 1), false, 2);
        CHECK.due(x, "does not hold", x.ahead(12, 2, 3), false, 9);
        CHECK.due("the fraction stays", x.top() * 10 + x.bottom(), 12);
    }

    private static void askLarge() {
        StringBuilder text = new StringBuilder();
        for (int i = 0; i < 16; i++) {
            text.append("put ").append((char) ('a' + i)).append(" key 1 says 1;");
        }
        SwapBook x = bookOf(text.toString());
        long all = 20922789888000L;
        CHECK.due(x, "orders of 16", x.orders(65535), all, 0);
        CHECK.due(x, "ordered", x.ordered(65535, all), -1, 5);
        CHECK.due(x, "ordered", x.ordered(65535, all - 1), 16, 0);
        CHECK.due("number()", x.number(), all - 1);
        CHECK.due("orderAt(0)", x.orderAt(0), 15);
        CHECK.due("orderAt(15)", x.orderAt(15), 0);
        CHECK.due("swaps()", x.swaps(), 120);
        long[] back = new long[16];
        for (int i = 0; i < 16; i++) {
            back[i] = 15 - i ^ 1;
        }
        lay(x, 0, 0, back);
        CHECK.due(x, "order of 16", x.order(0, 16), true, 0);
        CHECK.due("orderAt(15)", x.orderAt(15), 1);
        CHECK.due("swaps()", x.swaps(), 112);
        CHECK.due("swap(14)", x.swap(14), true);
        CHECK.due("forward(15)", x.forward(15), 0);
        CHECK.due(x, "ordered", x.ordered(65535, all - 1), 16, 0);
        askFraction(x, 65535, 3, 12, 1, 2);
        // Eight chains of two: 16 over 2 to the 8.
        StringBuilder chains = new StringBuilder();
        for (int i = 0; i < 8; i++) {
            chains.append("put ").append((char) ('a' + i)).append(" key 1 says 1;");
            chains.append("take ").append((char) ('i' + i)).append(" of ").append((char) ('a' + i)).append(";");
        }
        x = bookOf(chains.toString());
        CHECK.due(x, "orders of chains", x.orders(65535), all / 256, 0);
        CHECK.due(x, "the last", x.ordered(65535, all / 256 - 1), 16, 0);
        CHECK.due("number()", x.number(), all / 256 - 1);
        askFraction(x, 65535, 0, 2, 1, 2);
        askFraction(x, 65535, 1, 2, 1, 6);
        askFraction(x, 65535, 0, 3, 5, 6);
        CHECK.due(x, "orders again", x.orders(65535), all / 256, 0);
    }

    private static void askRow(SwapBook x, int... row) {
        for (int k = 0; k < row.length; k++) {
            CHECK.due(x, "orderAt(" + k + ")", x.orderAt(k), row[k], 0);
        }
        CHECK.due(x, "orderAt behind", x.orderAt(row.length), -1, 8);
        CHECK.due(x, "orderAt(-1)", x.orderAt(-1), -1, 8);
    }

    private static void askOrdered() {
        SwapBook x = bookOf(TEXT);
        int[][] rows = {{0, 1, 2, 3}, {0, 1, 3, 2}, {0, 2, 1, 3}, {1, 0, 2, 3}, {1, 0, 3, 2}};
        int[] swaps = {0, 1, 1, 1, 2};
        for (int n = 0; n < 5; n++) {
            CHECK.due(x, "ordered(15, n)", x.ordered(15, n), 4, 0);
            askRow(x, rows[n]);
            CHECK.due(x, "number()", x.number(), n, 0);
            CHECK.due(x, "swaps()", x.swaps(), swaps[n], 0);
        }
        CHECK.due(x, "above", x.ordered(15, 5), -1, 5);
        CHECK.due(x, "below", x.ordered(15, -1), -1, 5);
        CHECK.due(x, "far above", x.ordered(15, Long.MAX_VALUE), -1, 5);
        CHECK.due(x, "does not hold", x.ordered(12, -1), -1, 9);
        CHECK.due(x, "set", x.ordered(16, -1), -1, 2);
        askRow(x, rows[4]);
        CHECK.due(x, "ordered(0, 0)", x.ordered(0, 0), 0, 0);
        CHECK.due(x, "number()", x.number(), 0, 0);
        CHECK.due(x, "swaps()", x.swaps(), 0, 0);
        askRow(x);
    }

    private static void lay(SwapBook x, int tray, int sort, long... row) {
        x.tray(tray, sort, row.length);
        for (int i = 0; i < row.length; i++) {
            x.write(tray, i, row[i]);
        }
    }

    private static void askOrder() {
        SwapBook x = bookOf(TEXT);
        lay(x, 0, 0, 1, 0, 3, 2, 9);
        CHECK.due(x, "order(0, 4)", x.order(0, 4), true, 0);
        askRow(x, 1, 0, 3, 2);
        CHECK.due("number()", x.number(), 4);
        CHECK.due(x, "no tray", x.order(4, 17), false, 1);
        CHECK.due(x, "no tray", x.order(-1, 17), false, 1);
        CHECK.due(x, "missing", x.order(1, 17), false, 3);
        CHECK.due(x, "so many", x.order(0, 17), false, 5);
        CHECK.due(x, "so many", x.order(0, -1), false, 5);
        CHECK.due(x, "too few", x.order(0, 6), false, 4);
        CHECK.due(x, "no change", x.order(0, 5), false, 5);
        lay(x, 1, 3, 2, 0, 0);
        CHECK.due(x, "one again, ahead of what it hangs on", x.order(1, 3), false, 5);
        CHECK.due(x, "does not hold", x.order(1, 2), false, 9);
        CHECK.due(x, "does not hold alone", x.order(1, 1), false, 9);
        lay(x, 2, 3, 1L << 32, -1);
        CHECK.due(x, "a large number", x.order(2, 1), false, 5);
        lay(x, 2, 3, 0, 1, 0, 4);
        CHECK.due(x, "one again, farther on", x.order(2, 3), false, 5);
        lay(x, 2, 3, 4);
        CHECK.due(x, "one above the last", x.order(2, 1), false, 5);
        lay(x, 2, 3, -1);
        CHECK.due(x, "below 0", x.order(2, 1), false, 5);
        askRow(x, 1, 0, 3, 2);
        CHECK.due(x, "nothing", x.order(2, 0), true, 0);
        askRow(x);
    }

    private static void askActs() {
        SwapBook x = bookOf(TEXT + "name e of b says 4; name f of b says 5; settle g of e not f; take h of a;");
        lay(x, 0, 1, 0, 1, 2, 4, 5, 6, 3, 7);
        CHECK.due(x, "order", x.order(0, 8), true, 0);
        // Lists: a; b a; a b from c on; e and f at b; d at b, in a quarrel with e and f; h at a.
        int[] places = {0, 0, 1, 1, 1, -1, 1, 0};
        for (int k = 0; k < 8; k++) {
            CHECK.due(x, "acts(" + k + ")", x.acts(k), places[k], 0);
        }
        CHECK.due(x, "acts(8)", x.acts(8), -1, 8);
        CHECK.due(x, "acts(-1)", x.acts(-1), -1, 8);
        lay(x, 0, 1, 0, 1, 3, 4, 7);
        CHECK.due(x, "order", x.order(0, 5), true, 0);
        CHECK.due(x, "of one gone", x.acts(3), -1, 0);
        CHECK.due(x, "of one there again by a quarrel", x.acts(4), 1, 0);
    }

    private static void askSwap() {
        SwapBook x = bookOf(TEXT);
        x.ordered(15, 0);
        CHECK.due(x, "swap(0)", x.swap(0), true, 0);
        askRow(x, 1, 0, 2, 3);
        CHECK.due(x, "swap(1)", x.swap(1), false, 9);
        askRow(x, 1, 0, 2, 3);
        CHECK.due(x, "swap(3)", x.swap(3), false, 8);
        CHECK.due(x, "swap(-1)", x.swap(-1), false, 8);
        CHECK.due(x, "swap(far)", x.swap(Integer.MAX_VALUE), false, 8);
        CHECK.due(x, "swap(2)", x.swap(2), true, 0);
        askRow(x, 1, 0, 3, 2);
        CHECK.due("number()", x.number(), 4);
        CHECK.due(x, "forward(2)", x.forward(2), 2, 0);
        askRow(x, 1, 0, 2, 3);
        CHECK.due(x, "forward(0)", x.forward(0), 0, 0);
        askRow(x, 0, 1, 2, 3);
        CHECK.due(x, "forward(0)", x.forward(0), 0, 0);
        CHECK.due(x, "forward(2)", x.forward(2), 1, 0);
        askRow(x, 0, 2, 1, 3);
        CHECK.due(x, "forward(3)", x.forward(3), 3, 0);
        CHECK.due(x, "forward(4)", x.forward(4), -1, 2);
        CHECK.due(x, "forward(-1)", x.forward(-1), -1, 2);
        x.ordered(1, 0);
        CHECK.due(x, "not in it", x.forward(1), -1, 8);
        CHECK.due(x, "swap of one", x.swap(0), false, 8);
    }
}
