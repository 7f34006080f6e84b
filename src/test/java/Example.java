// How SwapBook is used, call by call. README.md shows this file as it is, and ReadmeTest asks that each
// answer is the one that stands behind it.
public final class Example {
    // Text comes by twenty bytes a call, the highest byte of each int first; blanks fill the last call.
    static void feed(SwapBook x, String text) {
        for (int i = 0; i < text.length(); i += 20) {
            int[] five = new int[5];
            for (int k = 0; k < 20; k++) {
                five[k / 4] = five[k / 4] << 8 | (i + k < text.length() ? text.charAt(i + k) : ' ');
            }
            x.feed(five[0], five[1], five[2], five[3], five[4]);
        }
    }

    static void show(Object answer) {
        System.out.println(answer);
    }

    public static void main(String[] args) {
        SwapBook x = new SwapBook();

        // A BOOK of two ISLANDS and five CHANGES: tea is CHANGE 0, salt 1, more 2, less 3, truce 4.
        String book = "island ann; island bob; put tea key 20 says 1; put salt key 10 says 2; "
            + "name more of tea says 5; name less of tea says 3; settle truce of less not more;";
        feed(x, book);
        show(x.book(book.length())); // 5
        show(x.hangs(4, 1)); // 13

        // The LIST of the SET of tea and salt (1 + 2) goes by KEYS: salt, then tea.
        show(x.size(3)); // 2
        show(x.thing(3, 0)); // 1
        show(x.place(3, 0)); // 1

        // more and less QUARREL, so tea says what was last AGREED; with truce it says what less does.
        show(x.quarrels(13)); // 1
        show(x.says(13, 0)); // 1
        show(x.says(29, 0)); // 3
        show(x.leastOut(13)); // 4

        // A call that can't be answered gives NONE (or false), and STATUS tells why: 9, less hangs on tea.
        show(x.size(8)); // -1
        show(x.status()); // 9

        // Three ORDERS of tea, salt and more; in the last one salt stands first. The FRACTION tells in
        // how many of them more stands ahead of salt.
        show(x.orders(7)); // 3
        show(x.ordered(7, 2)); // 3
        show(x.orderAt(0)); // 1
        show(x.acts(1)); // 1
        show(x.swaps()); // 1
        show(x.ahead(7, 2, 1)); // true
        show(x.top()); // 1
        show(x.bottom()); // 3

        // ann has tea and salt; behind the LOG bob has them and what ann made, and it is DAY 2.
        String log = "make more at ann; ship ann to bob late 2; make less at ann; wait 2;";
        show(x.give(0, 3)); // true
        feed(x, log);
        show(x.log(log.length())); // 4
        show(x.sail(0)); // 4
        show(x.sailed(0)); // 2
        show(x.has(0)); // 15
        show(x.has(1)); // 7

        // A text with a FAULT: the old BOOK stays, fault() tells the kind and the place.
        feed(x, "put tea key ten says 1;");
        show(x.book(23)); // -1
        show(x.status()); // 10
        show(x.fault(0)); // 2
        show(x.fault(1)); // 12

        // What bob has is SEALED in a TRAY of 16 bits, and opened.
        show(x.tray(0, 1, 8)); // true
        show(x.seal(0, x.has(1))); // 6
        show(x.read(0, 5)); // 21
        show(x.open(0)); // 7

        // All is taken back to a MARK.
        show(x.mark()); // 1
        show(x.give(1, 0)); // true
        show(x.back()); // 0
        show(x.has(1)); // 7
    }
}
