// Promises 9 to 14: the tape, BOOKS, LOGS, their FAULTS, what a BOOK has.
public final class TextsTest {
    private static final Check CHECK = new Check("TextsTest");
    private static final String ISLES = "island ann; island bob;";
    private static final String A = "put a key 5 says 1;";

    public static void main(String[] args) {
        askFeed();
        askTape();
        askBook();
        askBookFaults();
        askBookLimits();
        askLog();
        askLogFaults();
        askLogLimits();
        askMany();
        askChange();
        CHECK.end();
    }

    private static void askFeed() {
        SwapBook x = new SwapBook();
        for (int i = 1; i <= 45; i++) {
            CHECK.due("feed", x.feed(0x20202020, 0x20202020, 0x20202020, 0x20202020, 0x20202020), 20 * i);
        }
        CHECK.due("feed", x.feed(0, 0, 0, 0, 0), -1);
        CHECK.due("status()", x.status(), 0);
        CHECK.due(x, "book(901)", x.book(901), -1, 5);
        CHECK.due("feed has no status", x.feed(0, 0, 0, 0, 0), -1);
        CHECK.due("status()", x.status(), 5);
        CHECK.due(x, "book(900)", x.book(900), 0, 0);
        CHECK.due("feed", x.feed(0, 0, 0, 0, 0), 20);
        // The bytes 'i', 's', 'l', 'a' .. in this order, and 255 as no token.
        SwapBook y = new SwapBook();
        y.feed(0x69736c61, 0x6e642061, 0x3bffffff, -1, -1);
        CHECK.due(y, "book(9)", y.book(9), 0, 0);
        CHECK.due("many(1)", y.many(1), 1);
        y.feed(0x69736c61, 0x6e642061, 0x3bffffff, -1, -1);
        CHECK.due(y, "book(10)", y.book(10), -1, 10);
        CHECK.due("fault(0)", y.fault(0), 1);
        CHECK.due("fault(1)", y.fault(1), 9);
    }

    private static void askTape() {
        SwapBook x = new SwapBook();
        Check.feed(x, A);
        CHECK.due(x, "book(-1)", x.book(-1), -1, 5);
        CHECK.due(x, "book(21)", x.book(21), -1, 5);
        CHECK.due("fault(0) ahead of any", x.fault(0), -1);
        CHECK.due(x, "log(21)", x.log(21), -1, 5);
        CHECK.due(x, "the tape stayed", x.book(20), 1, 0);
        CHECK.due("fault(0)", x.fault(0), 0);
        CHECK.due("fault(1)", x.fault(1), -1);
        CHECK.due("fault(2)", x.fault(2), -1);
        CHECK.due("fault(-1)", x.fault(-1), -1);
        CHECK.due(x, "the tape is empty", x.book(1), -1, 5);
        Check.feed(x, "put a key 5 says one;");
        CHECK.due(x, "fault", x.book(20), -1, 10);
        CHECK.due(x, "the tape is empty behind a fault", x.book(1), -1, 5);
        CHECK.due("fault(0) behind 5", x.fault(0), 2);
        CHECK.due("fault(1) behind 5", x.fault(1), 17);
        CHECK.due("the old book", x.many(0), 1);
        Check.feed(x, " ".repeat(320));
        CHECK.due(x, "log(301)", x.log(301), -1, 5);
        CHECK.due("fault(0) of the book yet", x.fault(0), 2);
        CHECK.due(x, "log(300)", x.log(300), 0, 0);
        CHECK.due("fault(0) of the log", x.fault(0), 0);
        CHECK.due(x, "the tape is empty behind a log", x.log(1), -1, 5);
    }

    private static void askBook() {
        SwapBook x = new SwapBook();
        CHECK.due(x, "empty", Check.book(x, ""), 0, 0);
        CHECK.due(x, "blanks", Check.book(x, " \n "), 0, 0);
        CHECK.due(x, "no blanks", Check.book(x, "put a key5says1;put b key0001says9999;move c of a key3after b;"), 3, 0);
        CHECK.due("key of b", x.change(1, 1), 1);
        CHECK.due("says of b", x.change(1, 2), 9999);
        CHECK.due("needs of c", x.hangs(2, 0), 3);
        CHECK.due(x, "lines", Check.book(x, "\nput\na\nkey\n5\nsays\n1\n;\n"), 1, 0);
        CHECK.due(x, "a name of 8 letters", Check.book(x, "put abcdefgh key 1 says 1; take zzzzzzzz of abcdefgh;"), 2, 0);
        CHECK.due(x, "names beside words", Check.book(x, "put puts key 1 says 1; put pu key 1 says 1; take stops of puts;"), 3, 0);
        CHECK.due(x, "after that of which it is", Check.book(x, A + "take b of a after a;"), 2, 0);
        // What stood ahead is gone with a new BOOK.
        SwapBook y = new SwapBook();
        Check.book(y, ISLES + A);
        y.give(0, 1);
        y.ordered(1, 0);
        Check.log(y, "wait 1;");
        CHECK.due("orderAt", y.orderAt(0), 0);
        Check.book(y, ISLES + A + "take ");
        CHECK.due("has behind a fault", y.has(0), 1);
        CHECK.due("orderAt behind a fault", y.orderAt(0), 0);
        CHECK.due("sail behind a fault", y.sail(0), 1);
        Check.book(y, ISLES + A);
        CHECK.due(y, "has", y.has(0), 0, 0);
        CHECK.due(y, "orderAt", y.orderAt(0), -1, 8);
        CHECK.due(y, "sail", y.sail(0), -1, 8);
        CHECK.due(y, "sailed stays", y.sailed(0), 1, 0);
    }

    // The place of the FAULT is marked by a ^ in the text.
    private static void faulty(boolean log, int kind, String marked) {
        SwapBook x = new SwapBook();
        if (log) {
            Check.book(x, ISLES + A + "name c of a says 2;");
        }
        int place = marked.indexOf('^');
        String text = marked.replace("^", "");
        int told = log ? Check.log(x, text) : Check.book(x, text);
        CHECK.due(x, marked, told, -1, 10);
        CHECK.due(marked + " fault(0)", x.fault(0), kind);
        CHECK.due(marked + " fault(1)", x.fault(1), place);
    }

    private static void askBookFaults() {
        for (String sign : new String[] {"?", "A", "\t", "\r", "-", "{", "\u0000", "\u00ff", "/", ":", "`"}) {
            faulty(false, 1, "^" + sign);
            faulty(false, 1, "put ^" + sign + " key 1 says 1;");
            faulty(false, 1, A + "\n^" + sign);
        }
        faulty(false, 1, "put a key ^12345 says 1;");
        faulty(false, 1, "put ^00001 key 1 says 1;");
        faulty(false, 1, "put a^-b key 1 says 1;");
        faulty(false, 2, "^a;");
        faulty(false, 2, "^;");
        faulty(false, 2, "^7;");
        faulty(false, 2, "^key a;");
        faulty(false, 2, A + "^make a at b;");
        faulty(false, 2, "put^");
        faulty(false, 2, "put a key 5 says 1^");
        faulty(false, 2, "put a key 5 says 1  \n^");
        faulty(false, 2, "put ^abcdefghi key 1 says 1;");
        faulty(false, 2, "put ^7 key 1 says 1;");
        faulty(false, 2, "put a ^says 1 key 1;");
        faulty(false, 2, "put a key ^b says 1;");
        faulty(false, 2, "put a key 1 says 1 ^1;");
        faulty(false, 2, "put a key 1 says 1 after^;");
        faulty(false, 2, "island ann ^bob;");
        faulty(false, 2, A + "take b ^a;");
        faulty(false, 2, A + "take b of a ^says 1;");
        faulty(false, 2, A + "name b of a ^key 1;");
        faulty(false, 2, A + "move b of a ^says 1;");
        faulty(false, 2, A + "name b of a says 1; name c of a says 2; settle d of b ^c;");
        faulty(false, 2, A + "take b of a after a ^abcdefghi;");
        faulty(false, 2, A + "take b of a after a ^after a;");
        for (String word : "island put key says take of name move settle not after make at ship to late twice out pick when has quiet day draw wait loop end stop".split(" ")) {
            faulty(false, 2, "island ^" + word + ";");
            faulty(false, 2, A + "take b of ^" + word + ";");
        }
        faulty(false, 3, "island a; island ^a;");
        faulty(false, 3, "island a; put ^a key 1 says 1;");
        faulty(false, 3, A + "put ^a key 1 says 1;");
        faulty(false, 3, A + "island ^a;");
        faulty(false, 3, A + "take b of ^c;");
        faulty(false, 3, A + "take b of ^b;");
        faulty(false, 3, "island i;" + A + "take b of ^i;");
        faulty(false, 3, A + "take b of a after ^b;");
        faulty(false, 3, A + "take b of a after a ^c;");
        faulty(false, 3, A + "name b of a says 1; settle d of b not ^c;");
        faulty(false, 5, A + "take b of a; take c of ^b;");
        faulty(false, 5, A + "take b of a; name c of ^b says 1;");
        faulty(false, 5, A + "take b of a; move c of ^b key 1;");
        String two = A + "name b of a says 1; name c of a says 2; settle d of b not c;";
        faulty(false, 5, two + "take e of ^d;");
        faulty(false, 5, two + "move e of ^d key ?;");
        faulty(false, 5, two + "settle e of ^a not b;");
        faulty(false, 5, two + "settle e of ^d not b;");
        faulty(false, 5, two + "settle e of b not ^a;");
        faulty(false, 5, two + "settle e of b not ^d;");
        faulty(false, 5, two + "settle e of b not ^b;");
        faulty(false, 5, two + "move e of a key 1; settle f of b not ^e;");
        faulty(false, 5, two + "name e of b says 1; settle f of b not ^e;");
        faulty(false, 5, two + "name e of a says 1 after b; settle f of e not ^b;");
        faulty(false, 5, two + "take e of a; take f of a; settle g of e not ^f;");
        faulty(false, 5, two + "take e of a after b c ^b;");
        faulty(false, 5, "put a key 1 says 1; put b key 1 says 1; name c of a says 1; name d of b says 1; settle e of c not ^d;");
    }

    private static void askBookLimits() {
        faulty(false, 6, ISLES + "island c; island d; ^island d;");
        StringBuilder text = new StringBuilder();
        for (int i = 0; i < 16; i++) {
            text.append("put ").append((char) ('a' + i)).append(" key 1 says 1;");
        }
        SwapBook x = new SwapBook();
        CHECK.due(x, "16 changes", Check.book(x, text + ISLES), 16, 0);
        faulty(false, 6, text + "^put a key 1 says 1;");
        faulty(false, 6, text + "^settle");
        faulty(false, 2, text + "^key");
        CHECK.due(x, "two settles of one couple", Check.book(x, A
            + "name b of a says 1; take c of a; settle d of b not c; settle e of c not b after d;"), 5, 0);
        String filled = A + " ".repeat(900 - A.length());
        CHECK.due(x, "900 bytes", Check.book(x, filled), 1, 0);
        faulty(false, 2, "^" + ";".repeat(900));
        faulty(false, 2, "put a key 5 says 1" + " ".repeat(882) + "^");
        faulty(false, 2, "put a key 5 says 1" + " ".repeat(880) + "^1;");
    }

    private static void askLog() {
        SwapBook x = new SwapBook();
        Check.book(x, ISLES + A);
        CHECK.due(x, "empty", Check.log(x, ""), 0, 0);
        CHECK.due(x, "all steps", Check.log(x, "make a at ann; ship ann to bob; ship ann to bob late 0; ship ann to bob late 9 twice;"
            + "ship bob to bob twice; out a at bob; pick a at bob; wait 1; wait 99; draw 0; draw 16; when has ann a; end;"
            + "when quiet bob; end; when day 0; stop; end; when day 999; loop 1; loop 99; end; end; end; stop;"), 19, 0);
        CHECK.due(x, "no blanks", Check.log(x, "wait1;loop2;draw3;end;"), 3, 0);
        // A LOG that can't be leaves the old one.
        CHECK.due(x, "fault", Check.log(x, "wait 0;"), -1, 10);
        CHECK.due(x, "the old log", x.sail(0), 4, 0);
        SwapBook y = new SwapBook();
        CHECK.due(y, "a log without a book", Check.log(y, "wait 7;"), 1, 0);
        CHECK.due(y, "sail", y.sail(0), 1, 0);
        CHECK.due(y, "day", y.sailed(0), 7, 0);
    }

    private static void askLogFaults() {
        faulty(true, 1, "^!");
        faulty(true, 1, "wait ^12345;");
        faulty(true, 2, "^end;");
        faulty(true, 2, "loop 1; end; ^end;");
        faulty(true, 2, "loop 1; wait 1;^");
        faulty(true, 2, "when day 1; loop 1; end;  ^");
        faulty(true, 2, "^put a key 1 says 1;");
        faulty(true, 2, "^a;");
        faulty(true, 2, "make ^at at ann;");
        faulty(true, 2, "make ^abcdefghi at ann;");
        faulty(true, 2, "make a ^to ann;");
        faulty(true, 2, "ship ann ^at bob;");
        faulty(true, 2, "ship ann to bob twice ^late 1;");
        faulty(true, 2, "ship ann to bob twice ^twice;");
        faulty(true, 2, "ship ann to bob late ^twice;");
        faulty(true, 2, "wait ^a;");
        faulty(true, 2, "wait 1^");
        faulty(true, 2, "stop ^1;");
        faulty(true, 2, "when ^wait 1; end;");
        faulty(true, 2, "when has ann a ^a; end;");
        faulty(true, 2, "when quiet ^day; end;");
        faulty(true, 2, "loop 1; end ^end;");
        faulty(true, 3, "make ^ann at ann;");
        faulty(true, 3, "make ^b at ann;");
        faulty(true, 3, "make a at ^a;");
        faulty(true, 3, "out a at ^zoe;");
        faulty(true, 3, "pick ^bob at bob;");
        faulty(true, 3, "ship ^a to bob;");
        faulty(true, 3, "ship ann to ^c late 44;");
        faulty(true, 3, "when has ^a ann; end;");
        faulty(true, 3, "when has ann ^ann; end;");
        faulty(true, 3, "when quiet ^a; end;");
        faulty(true, 4, "ship ann to bob late ^10;");
        faulty(true, 4, "wait ^0;");
        faulty(true, 4, "wait ^100;");
        faulty(true, 4, "draw ^17;");
        faulty(true, 4, "loop ^0; end;");
        faulty(true, 4, "loop ^100; end;");
        faulty(true, 4, "when day ^1000; end;");
    }

    private static void askLogLimits() {
        String thirty = "stop;".repeat(30);
        SwapBook x = new SwapBook();
        CHECK.due(x, "30 steps", Check.log(x, thirty), 30, 0);
        faulty(true, 6, thirty + "^stop;");
        faulty(true, 6, thirty + "^make");
        faulty(true, 2, thirty + "^end;");
        faulty(true, 2, thirty + "^late;");
        CHECK.due(x, "many loops", Check.log(x, "loop1;end;".repeat(30)), 30, 0);
        CHECK.due(x, "3 within", Check.log(x, "loop 1; when day 1; loop 1; stop; end; end; end;"), 4, 0);
        faulty(true, 7, "loop 1; when day 1; loop 1; ^loop 0; end; end; end; end;");
        faulty(true, 7, "loop 1; when day 1; loop 1; wait 1; ^when x");
        faulty(true, 6, "stop;".repeat(27) + "loop 1; loop 1; loop 1; ^loop 1;");
        CHECK.due(x, "30 with ends", Check.log(x, "stop;".repeat(27) + "loop 1; loop 1; loop 1; end; end; end;"), 30, 0);
    }

    private static void askMany() {
        SwapBook x = new SwapBook();
        Check.book(x, ISLES + A + "put b key 1 says 1; name c of a says 2; move d of a key 3; take e of a; take f of a;"
            + "name g of a says 3 after c; name h of b says 1; settle i of c not e;");
        CHECK.due(x, "many(0)", x.many(0), 9, 0);
        CHECK.due(x, "many(1)", x.many(1), 2, 0);
        CHECK.due(x, "many(2)", x.many(2), 2, 0);
        // c and e, c and f, d and e, d and f, e and g, f and g.
        CHECK.due(x, "many(3)", x.many(3), 6, 0);
        CHECK.due(x, "many(4)", x.many(4), -1, 5);
        CHECK.due(x, "many(-1)", x.many(-1), -1, 5);
    }

    private static void askChange() {
        SwapBook x = new SwapBook();
        Check.book(x, A + "name b of a says 2; move c of b key 3; take d of c; name e of a says 4; settle f of b not e;"
            + "put g key 7 says 8 after f;");
        int[][] due = {{0, 5, 1, 0, 0}, {2, 2, -1, 0, 1}, {3, 3, -1, 0, 2}, {1, -1, -1, 0, 3}, {2, 4, -1, 0, 1},
            {4, -1, -1, 0, 2}, {0, 7, 8, 6, 3}};
        for (int c = 0; c < due.length; c++) {
            for (int what = 0; what < 5; what++) {
                boolean none = what == 2 && due[c][0] != 0;
                CHECK.due(x, "change(" + c + ", " + what + ")", x.change(c, what), due[c][what], none ? 8 : 0);
            }
        }
        CHECK.due(x, "change(7, 0)", x.change(7, 0), -1, 2);
        CHECK.due(x, "change(-1, 9)", x.change(-1, 9), -1, 2);
        CHECK.due(x, "change(0, 5)", x.change(0, 5), -1, 5);
        CHECK.due(x, "change(1, -1)", x.change(1, -1), -1, 5);
    }
}
