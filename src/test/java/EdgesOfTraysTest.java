// The boundary cases of promises 1 to 8: a new object, STATUS, the FRACTION, TRAYS.
public final class EdgesOfTraysTest {
    private static final Edges EDGES = new Edges("EdgesOfTraysTest");
    private static final String CUT = "what is written is cut to these";
    private static final int FAR = Integer.MAX_VALUE;
    private static final int LOW = Integer.MIN_VALUE;

    public static void main(String[] args) {
        askNewObject();
        askNewBook();
        askStatus();
        askFraction();
        askTray();
        askLaidAnew();
        askCut();
        askWrite();
        askRead();
        askPour();
        askPourRefused();
        EDGES.end(1, 8);
    }

    private static void askNewObject() {
        SwapBook x = EDGES.begin(1, "STATUS 0");
        EDGES.gives(x, 0, "status");
        x = EDGES.begin(1, "the FRACTION 0 by 1");
        EDGES.gives(x, 0, "top");
        EDGES.gives(x, 1, "bottom");
        x = EDGES.begin(1, "TRAYS are MISSING");
        for (int tray = 0; tray < 4; tray++) {
            EDGES.refuses(x, 3, "read", tray, 0);
            EDGES.refuses(x, 3, "write", tray, 0, 1);
            EDGES.refuses(x, 3, "pour", tray, 0, tray, 0, 0);
            EDGES.refuses(x, 3, "order", tray, 0);
            EDGES.refuses(x, 3, "seal", tray, 0);
            EDGES.refuses(x, 3, "open", tray);
        }
        x = EDGES.begin(1, "an empty tape");
        EDGES.refuses(x, 5, "book", 1);
        EDGES.refuses(x, 5, "log", 1);
        EDGES.gives(x, 20, "feed", 0, 0, 0, 0, 0);
    }

    private static void askNewBook() {
        SwapBook x = EDGES.begin(1, "no BOOK (no ISLANDS, CHANGES)");
        for (int what = 0; what < 4; what++) {
            EDGES.gives(x, 0, "many", what);
        }
        EDGES.refuses(x, 2, "has", 0);
        EDGES.refuses(x, 2, "change", 0, 0);
        EDGES.refuses(x, 2, "holds", 1);
        EDGES.gives(x, 1, "holds", 0);
        EDGES.gives(x, 0, "mostQuiet");
        x = EDGES.begin(1, "an empty ORDER");
        EDGES.refuses(x, 8, "orderAt", 0);
        EDGES.refuses(x, 8, "acts", 0);
        EDGES.gives(x, 0, "number");
        EDGES.gives(x, 0, "swaps");
        x = EDGES.begin(1, "no LOG, MARKS");
        EDGES.refuses(x, 8, "sail", 0);
        EDGES.refuses(x, 8, "agreed", 0, 1);
        EDGES.refuses(x, 8, "sailed", 0);
        EDGES.refuses(x, 8, "back");
        x = EDGES.begin(12, "NONE for others, and ahead of any.");
        EDGES.gives(x, -1, "fault", 0);
        EDGES.gives(x, -1, "fault", 1);
    }

    private static void askStatus() {
        SwapBook x = EDGES.begin(2, "status(), fault(), feed(), top(), bottom() have none.");
        EDGES.refuses(x, 5, "many", 9);
        EDGES.gives(x, -1, "fault", 7);
        EDGES.gives(x, 0, "top");
        EDGES.gives(x, 1, "bottom");
        for (int fed = 20; fed <= 900; fed += 20) {
            EDGES.gives(x, fed, "feed", 0, 0, 0, 0, 0);
        }
        EDGES.gives(x, -1, "feed", 0, 0, 0, 0, 0);
        EDGES.gives(x, 5, "status");
        EDGES.gives(x, 5, "status");
        x = EDGES.begin(2, "The STATUS of the latest call that has one.");
        EDGES.refuses(x, 8, "back");
        EDGES.refuses(x, 3, "read", 0, 0);
        EDGES.gives(x, 0, "alone");
        EDGES.gives(x, 0, "status");
    }

    private static void askFraction() {
        SwapBook x = EDGES.begin(3, "0 is 0 by 1");
        Check.book(x, "put a key 1 says 1; take b of a; put c key 1 says 1;");
        EDGES.gives(x, 1, "ahead", 7, 0, 2);
        EDGES.gives(x, 2, "top");
        EDGES.gives(x, 3, "bottom");
        EDGES.gives(x, 1, "ahead", 7, 1, 0);
        EDGES.gives(x, 0, "top");
        EDGES.gives(x, 1, "bottom");
        x = EDGES.begin(4, "without a common divisor, the bottom above 0");
        Check.book(x, "put a key 1 says 1; put b key 1 says 1; put c key 1 says 1; put d key 1 says 1;");
        EDGES.gives(x, 1, "ahead", 15, 3, 0);
        EDGES.gives(x, 1, "top");
        EDGES.gives(x, 2, "bottom");
        x = EDGES.begin(3, "The top of the FRACTION told latest.");
        Check.book(x, "put a key 1 says 1; put b key 1 says 1;");
        EDGES.gives(x, 1, "ahead", 3, 0, 1);
        EDGES.refuses(x, 2, "ahead", 3, 0, 0);
        EDGES.gives(x, 2, "orders", 3);
        EDGES.gives(x, 1, "top");
        EDGES.gives(x, 2, "bottom");
    }

    private static void askTray() {
        String none = "1 no such TRAY (or sort).";
        for (int tray : new int[] {-1, 4, FAR, LOW}) {
            EDGES.refused(5, none, 1, "tray", tray, 1, 3);
            EDGES.refused(5, none, 1, "tray", 0, tray, 3);
        }
        EDGES.refused(5, "(1; 5; 6)", 1, "tray", 4, 0, 61);
        EDGES.refused(5, "(1; 5; 6)", 1, "tray", 0, 4, -1);
        EDGES.refused(5, "(at most 60; 5)", 5, "tray", 0, 1, 61);
        EDGES.refused(5, "(at most 60; 5)", 5, "tray", 3, 1, FAR);
        EDGES.refused(5, "6 below 0 (a TRAY's length).", 6, "tray", 0, 1, -1);
        EDGES.refused(5, "6 below 0 (a TRAY's length).", 6, "tray", 3, 1, LOW);
        SwapBook x = EDGES.begin(5, "TRAYS, 0 to 3");
        for (int tray = 0; tray < 4; tray++) {
            EDGES.gives(x, 1, "tray", tray, 3 - tray, 1);
            EDGES.gives(x, 0, "read", tray, 0);
            EDGES.refuses(x, 4, "read", tray, 1);
        }
        x = EDGES.begin(5, "(at most 60; 5)");
        EDGES.gives(x, 1, "tray", 0, 0, 60);
        EDGES.gives(x, 1, "write", 0, 59, 9);
        EDGES.gives(x, 9, "read", 0, 59);
        EDGES.refuses(x, 4, "read", 0, 60);
        x = EDGES.begin(5, "A TRAY is a row of so many numbers");
        EDGES.gives(x, 1, "tray", 0, 0, 0);
        EDGES.refuses(x, 4, "read", 0, 0);
        EDGES.refuses(x, 4, "write", 0, 0, 1);
        EDGES.gives(x, 1, "pour", 0, 0, 0, 0, 0);
        EDGES.gives(x, 1, "order", 0, 0);
    }

    private static void askLaidAnew() {
        SwapBook x = EDGES.begin(5, "all 0");
        x.tray(1, 3, 60);
        for (int place = 0; place < 60; place++) {
            EDGES.gives(x, 0, "read", 1, place);
            x.write(1, place, -1);
        }
        EDGES.gives(x, 1, "tray", 1, 0, 2);
        EDGES.gives(x, 0, "read", 1, 1);
        EDGES.refuses(x, 4, "read", 1, 2);
        EDGES.gives(x, 1, "write", 1, 0, 300);
        EDGES.gives(x, 44, "read", 1, 0);
        EDGES.gives(x, 1, "tray", 1, 3, 60);
        for (int place = 0; place < 60; place++) {
            EDGES.gives(x, 0, "read", 1, place);
        }
    }

    private static void askCut() {
        SwapBook x = EDGES.begin(6, CUT);
        for (int sort = 0; sort < 4; sort++) {
            x.tray(sort, sort, 1);
        }
        for (int sort = 0; sort < 3; sort++) {
            long half = 1L << (8 << sort) - 1;
            long[] written = {half - 1, half, 2 * half - 1, 2 * half, 2 * half + 1, -half, -half - 1, -2 * half, Long.MAX_VALUE,
                Long.MIN_VALUE};
            long[] cut = {half - 1, -half, -1, 0, 1, -half, half - 1, 0, -1, 0};
            for (int i = 0; i < written.length; i++) {
                EDGES.gives(x, 1, "write", sort, 0, written[i]);
                EDGES.gives(x, cut[i], "read", sort, 0);
            }
        }
        for (long v : new long[] {Long.MAX_VALUE, Long.MIN_VALUE, -1, 0, 1L << 32}) {
            EDGES.gives(x, 1, "write", 3, 0, v);
            EDGES.gives(x, v, "read", 3, 0);
        }
    }

    private static void askWrite() {
        for (int tray : new int[] {-1, 4, FAR, LOW}) {
            EDGES.refused(6, "1 no such TRAY", 1, "write", tray, 0, 1);
        }
        EDGES.refused(6, "3 the TRAY is MISSING.", 3, "write", 3, 0, 1);
        EDGES.refused(6, "(1; 3; 4)", 3, "write", 3, -1, 1);
        for (int place : new int[] {-1, 6, 59, 60, FAR, LOW}) {
            EDGES.refused(6, "4 a place that the TRAY has not", 4, "write", 0, place, 1);
        }
        SwapBook x = EDGES.begin(6, "A number comes to a place of a TRAY");
        x.tray(0, 0, 3);
        EDGES.gives(x, 1, "write", 0, 0, 5);
        EDGES.gives(x, 1, "write", 0, 2, 6);
        EDGES.gives(x, 5, "read", 0, 0);
        EDGES.gives(x, 0, "read", 0, 1);
        EDGES.gives(x, 6, "read", 0, 2);
    }

    private static void askRead() {
        for (int tray : new int[] {-1, 4, FAR, LOW}) {
            EDGES.refused(7, "1 no such TRAY", 1, "read", tray, 0);
        }
        EDGES.refused(7, "3 the TRAY is MISSING.", 3, "read", 3, 0);
        EDGES.refused(7, "(1; 3; 4)", 3, "read", 3, -1);
        for (int place : new int[] {-1, 6, 59, 60, FAR, LOW}) {
            EDGES.refused(7, "4 a place that the TRAY has not", 4, "read", 0, place);
        }
        SwapBook x = EDGES.begin(7, "STATUS tells NONE from -1");
        x.tray(0, 0, 1);
        x.write(0, 0, -1);
        EDGES.refuses(x, 4, "read", 0, 1);
        EDGES.gives(x, -1, "read", 0, 0);
    }

    private static SwapBook counting() {
        SwapBook x = new SwapBook();
        x.tray(0, 0, 5);
        x.tray(1, 0, 3);
        for (int place = 0; place < 5; place++) {
            x.write(0, place, place + 1);
        }
        return x;
    }

    private static void askPour() {
        EDGES.begin(8, "come to place j on of another one, or the same, as they were");
        SwapBook x = counting();
        EDGES.gives(x, 1, "pour", 0, 0, 0, 1, 4);
        EDGES.givesRow(x, 0, 1, 1, 2, 3, 4);
        x = counting();
        EDGES.gives(x, 1, "pour", 0, 1, 0, 0, 4);
        EDGES.givesRow(x, 0, 2, 3, 4, 5, 5);
        x = counting();
        EDGES.gives(x, 1, "pour", 0, 0, 0, 0, 5);
        EDGES.givesRow(x, 0, 1, 2, 3, 4, 5);
        EDGES.begin(8, "So many numbers from place i on");
        EDGES.gives(x, 1, "pour", 0, 2, 1, 0, 3);
        EDGES.givesRow(x, 1, 3, 4, 5);
        EDGES.gives(x, 1, "pour", 0, 0, 1, 2, 1);
        EDGES.givesRow(x, 1, 3, 4, 1);
        EDGES.gives(x, 1, "pour", 0, 5, 1, 3, 0);
        EDGES.givesRow(x, 1, 3, 4, 1);
        EDGES.givesRow(x, 0, 1, 2, 3, 4, 5);
    }

    private static void askPourRefused() {
        String order = "1, 3 (either), 11, 6, 4, asked in this order";
        for (int tray : new int[] {-1, 4, FAR, LOW}) {
            EDGES.refused(8, order, 1, "pour", tray, 0, 3, 0, -1);
            EDGES.refused(8, order, 1, "pour", 3, 0, tray, 0, -1);
        }
        EDGES.refused(8, order, 3, "pour", 3, 0, 0, 0, -1);
        EDGES.refused(8, order, 3, "pour", 0, 0, 3, 0, -1);
        EDGES.refused(8, order, 3, "pour", 3, 0, 3, 0, 0);
        EDGES.refused(8, order, 11, "pour", 0, -1, 2, -1, -1);
        EDGES.refused(8, "11 TRAYS of unlike sorts.", 11, "pour", 0, 0, 1, 0, 0);
        EDGES.refused(8, order, 6, "pour", 0, -1, 0, -1, -1);
        EDGES.refused(8, order, 6, "pour", 0, 0, 0, 0, LOW);
        for (int place : new int[] {-1, 7, FAR, LOW}) {
            EDGES.refused(8, order, 4, "pour", 0, place, 0, 0, 0);
            EDGES.refused(8, order, 4, "pour", 0, 0, 0, place, 0);
        }
        EDGES.refused(8, "or too few numbers", 4, "pour", 0, 0, 0, 0, 7);
        EDGES.refused(8, "or too few numbers", 4, "pour", 0, 3, 0, 0, 4);
        EDGES.refused(8, "or too few numbers", 4, "pour", 0, 0, 0, 3, 4);
        EDGES.refused(8, "or too few numbers", 4, "pour", 0, 6, 0, 0, 1);
        EDGES.refused(8, "or too few numbers", 4, "pour", 0, 0, 0, 6, 1);
        EDGES.refused(8, "or too few numbers", 4, "pour", 0, 1, 0, 0, FAR);
        EDGES.refused(8, "or too few numbers", 4, "pour", 0, FAR, 0, FAR, FAR);
    }
}
