// Promises 50 and 51: MARKS.
public final class MarksTest {
    private static final Check CHECK = new Check("MarksTest");
    private static final String TEXT = "island ann; put a key 1 says 1; put b key 1 says 1;";

    public static void main(String[] args) {
        askCount();
        askWhatIsKept();
        askWhatIsNot();
        CHECK.end();
    }

    private static void askCount() {
        SwapBook x = new SwapBook();
        CHECK.due(x, "back()", x.back(), -1, 8);
        for (int round = 0; round < 2; round++) {
            for (int i = 1; i <= 3; i++) {
                CHECK.due(x, "mark()", x.mark(), i, 0);
            }
            CHECK.due(x, "a fourth", x.mark(), -1, 7);
            for (int i = 2; i >= 0; i--) {
                CHECK.due(x, "back()", x.back(), i, 0);
            }
            CHECK.due(x, "back()", x.back(), -1, 8);
        }
    }

    private static void askWhatIsKept() {
        SwapBook x = new SwapBook();
        CHECK.due("mark()", x.mark(), 1);
        Check.book(x, TEXT);
        x.give(0, 1);
        x.ordered(3, 1);
        Check.log(x, "make b at ann; wait 3;");
        CHECK.due("mark()", x.mark(), 2);
        x.give(0, 2);
        x.swap(0);
        Check.log(x, "wait 1;");
        CHECK.due("mark()", x.mark(), 3);
        Check.book(x, "put c key 1 says 1; take d of c;");
        CHECK.due("many(0)", x.many(0), 2);
        CHECK.due("many(1)", x.many(1), 0);
        CHECK.due(x, "back()", x.back(), 2, 0);
        CHECK.due("has(0)", x.has(0), 2);
        CHECK.due("number()", x.number(), 0);
        CHECK.due("orderAt(1)", x.orderAt(1), 1);
        CHECK.due("sail(0)", x.sail(0), 1);
        CHECK.due(x, "back()", x.back(), 1, 0);
        CHECK.due("has(0)", x.has(0), 1);
        CHECK.due("number()", x.number(), 1);
        CHECK.due("orderAt(0)", x.orderAt(0), 1);
        CHECK.due("sail(0)", x.sail(0), 2);
        CHECK.due("has(0)", x.has(0), 3);
        CHECK.due(x, "back()", x.back(), 0, 0);
        CHECK.due("many(0)", x.many(0), 0);
        CHECK.due(x, "has(0)", x.has(0), -1, 2);
        CHECK.due(x, "orderAt(0)", x.orderAt(0), -1, 8);
        CHECK.due(x, "sail(0)", x.sail(0), -1, 8);
    }

    private static void askWhatIsNot() {
        SwapBook x = new SwapBook();
        Check.book(x, TEXT);
        x.mark();
        x.tray(0, 1, 3);
        x.write(0, 1, 7);
        x.ahead(3, 0, 1);
        Check.log(x, "wait 4;");
        x.sail(0);
        Check.book(x, "put a ?");
        x.feed(0, 0, 0, 0, 0);
        CHECK.due(x, "back()", x.back(), 0, 0);
        CHECK.due("read(0, 1)", x.read(0, 1), 7);
        CHECK.due("bottom()", x.bottom(), 2);
        CHECK.due("sailed(0)", x.sailed(0), 4);
        CHECK.due("fault(0)", x.fault(0), 1);
        CHECK.due("fault(1)", x.fault(1), 6);
        CHECK.due("the tape", x.feed(0, 0, 0, 0, 0), 40);
        CHECK.due(x, "sail(0)", x.sail(0), -1, 8);
    }
}
