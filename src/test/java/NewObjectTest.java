// Promise 1.
public final class NewObjectTest {
    public static void main(String[] args) {
        Check check = new Check("NewObjectTest");
        SwapBook x = new SwapBook();
        check.due("status()", x.status(), 0);
        check.due("top()", x.top(), 0);
        check.due("bottom()", x.bottom(), 1);
        check.due("fault(0)", x.fault(0), -1);
        check.due("fault(1)", x.fault(1), -1);
        for (int t = 0; t < 4; t++) {
            check.due(x, "read(t, 0)", x.read(t, 0), -1, 3);
        }
        for (int what = 0; what < 4; what++) {
            check.due(x, "many(what)", x.many(what), 0, 0);
        }
        check.due(x, "number()", x.number(), 0, 0);
        check.due(x, "orderAt(0)", x.orderAt(0), -1, 8);
        check.due(x, "sail(0)", x.sail(0), -1, 8);
        check.due(x, "back()", x.back(), -1, 8);
        check.due(x, "has(0)", x.has(0), -1, 2);
        check.due(x, "book(1)", x.book(1), -1, 5);
        check.due(x, "book(0)", x.book(0), 0, 0);
        check.end();
    }
}
