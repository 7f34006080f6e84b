// Promises 43 to 47: ISLANDS and ships.
public final class IslandsTest {
    private static final Check CHECK = new Check("IslandsTest");
    // a 0, b 1, c 2 and d 3 names of a, e 4 a move of c.
    private static final String TEXT = "island ann; island bob; island cid; put a key 5 says 1; put b key 3 says 2;"
        + "name c of a says 7; name d of a says 8; move e of c key 1;";

    public static void main(String[] args) {
        askGive();
        askMake();
        askShips();
        askLate();
        askFull();
        askDraws();
        askFlow();
        askSteps();
        askWrong();
        askAgreed();
        CHECK.end();
    }

    private static SwapBook bookOf() {
        SwapBook x = new SwapBook();
        Check.book(x, TEXT);
        return x;
    }

    // Sails by a LOG: the STEPS, then what sailed() tells, then what the ISLANDS have.
    private static void sail(SwapBook x, String text, int seed, int steps, int... due) {
        CHECK.due(text, Check.log(x, text) >= 0, true);
        CHECK.due(x, text, x.sail(seed), steps, 0);
        for (int i = 0; i < due.length; i++) {
            CHECK.due(text + " at " + i, i < 5 ? x.sailed(i) : x.has(i - 5), due[i]);
        }
    }

    private static void askGive() {
        SwapBook x = bookOf();
        CHECK.due(x, "has(2)", x.has(2), 0, 0);
        CHECK.due(x, "has(3)", x.has(3), -1, 2);
        CHECK.due(x, "has(-1)", x.has(-1), -1, 2);
        CHECK.due(x, "give(2, 5)", x.give(2, 5), true, 0);
        CHECK.due(x, "has(2)", x.has(2), 5, 0);
        CHECK.due(x, "has(1)", x.has(1), 0, 0);
        CHECK.due(x, "give(3, 4)", x.give(3, 4), false, 2);
        CHECK.due(x, "give(-1, 0)", x.give(-1, 0), false, 2);
        CHECK.due(x, "give(2, 32)", x.give(2, 32), false, 2);
        CHECK.due(x, "give(2, -1)", x.give(2, -1), false, 2);
        CHECK.due(x, "give(2, 4)", x.give(2, 4), false, 9);
        CHECK.due(x, "has(2)", x.has(2), 5, 0);
        CHECK.due(x, "give(2, 2)", x.give(2, 2), true, 0);
        CHECK.due(x, "has(2)", x.has(2), 2, 0);
    }

    private static void askMake() {
        SwapBook x = bookOf();
        sail(x, "make c at ann; make a at ann; make c at ann; make c at ann;", 0, 4, 0, 1, 0, 0, 0, 5, 0, 0);
        sail(x, "pick e at bob; pick c at bob; pick c at ann;", 0, 3, 0, 1, 0, 0, 0, 5, 5, 0);
        sail(x, "make e at bob; pick e at cid; out a at bob; out b at bob; out c at cid;", 0, 5, 0, 0, 0, 0, 0, 5, 0, 1);
        sail(x, "out c at ann; make e at ann;", 0, 2, 0, 1, 0, 0, 0, 1, 0, 1);
    }

    private static void askShips() {
        SwapBook x = bookOf();
        x.give(0, 5);
        x.give(1, 2);
        sail(x, "ship ann to bob; ship bob to ann; ship bob to bob; ship cid to ann;", 0, 4, 0, 1, 3, 0, 0, 7, 7, 0);
        // What it had when it set out comes, not what it has later.
        sail(x, "ship ann to cid late 2; out a at ann; wait 1; when has cid b; stop; end; wait 1; when has cid c; make d at cid; end;",
            0, 7, 2, 0, 1, 0, 0, 2, 7, 15);
    }

    private static void askLate() {
        SwapBook x = bookOf();
        x.give(0, 1);
        sail(x, "ship ann to bob late 3 twice; wait 2;", 0, 2, 2, 0, 0, 0, 2, 1, 0, 0);
        CHECK.due("what was on its way is lost", x.has(1), 0);
        sail(x, "ship ann to bob late 3 twice; wait 3;", 0, 2, 3, 0, 1, 0, 1, 1, 1, 0);
        sail(x, "ship ann to bob late 3 twice; wait 4;", 0, 2, 4, 0, 2, 0, 0, 1, 1, 0);
        sail(x, "ship ann to cid twice; out a at cid;", 0, 2, 0, 0, 1, 0, 1, 1, 1, 0);
        sail(x, "ship ann to cid twice; out a at cid; wait 1;", 0, 3, 1, 0, 2, 0, 0, 1, 1, 1);
        sail(x, "ship ann to cid late 9; wait 8; wait 1;", 0, 3, 9, 0, 1, 0, 0, 1, 1, 1);
    }

    private static void askFull() {
        SwapBook x = bookOf();
        x.give(0, 1);
        sail(x, "loop 21; ship ann to bob late 1; end;", 0, 22, 0, 1, 0, 0, 20, 1, 0, 0);
        sail(x, "loop 19; ship ann to bob late 1; end; ship ann to cid late 1 twice; ship ann to cid late 1;", 0, 22,
            0, 1, 0, 0, 20, 1, 0, 0);
        sail(x, "loop 20; ship ann to bob late 1; end; wait 1; ship ann to cid late 1;", 0, 23, 1, 0, 20, 0, 1, 1, 1, 0);
        // A ship whose second cargo finds no room doesn't bring its first one either.
        sail(x, "loop 20; ship ann to bob late 1; end; ship ann to cid twice;", 0, 22, 0, 1, 0, 0, 20, 1, 1, 0);
        sail(x, "loop 20; ship ann to bob late 1; end; ship ann to cid;", 0, 22, 0, 0, 1, 0, 20, 1, 1, 1);
    }

    private static void askDraws() {
        SwapBook x = bookOf();
        x.give(0, 1);
        // Of the seed 0: 9733 draws 0, then 27062 draws 6. Of the seed 5: 23478 draws 6.
        sail(x, "ship ann to bob late 1; draw 0;", 0, 2, 0, 0, 0, 0, 1, 1, 0, 0);
        sail(x, "ship ann to bob late 1; draw 1;", 0, 2, 0, 0, 0, 1, 0, 1, 0, 0);
        sail(x, "ship ann to bob late 1; draw 0; draw 6;", 0, 3, 0, 0, 0, 0, 1, 1, 0, 0);
        sail(x, "ship ann to bob late 1; draw 0; draw 7;", 0, 3, 0, 0, 0, 1, 0, 1, 0, 0);
        sail(x, "ship ann to bob late 1; draw 6;", 5, 2, 0, 0, 0, 0, 1, 1, 0, 0);
        sail(x, "ship ann to bob late 1; draw 7;", 5, 2, 0, 0, 0, 1, 0, 1, 0, 0);
        sail(x, "draw 16;", 9999, 1, 0, 0, 0, 0, 0, 1, 0, 0);
        // The latest that is on its way yet, with both of its cargoes.
        sail(x, "ship ann to bob late 1; ship ann to cid late 2 twice; ship ann to bob; draw 16; draw 16; draw 16;", 0, 6,
            0, 0, 1, 3, 0, 1, 1, 0);
        sail(x, "ship ann to bob late 1; ship ann to cid late 2 twice; draw 16; wait 1;", 0, 4, 1, 0, 1, 2, 0, 1, 1, 0);
        sail(x, "ship ann to cid late 1 twice; wait 1; draw 16;", 0, 3, 1, 0, 1, 1, 0, 1, 1, 1);
    }

    private static void askFlow() {
        SwapBook x = bookOf();
        sail(x, "when day 0; make a at ann; end; when day 1; make b at ann; end; wait 2; when day 1; make b at bob; end;", 0, 6,
            2, 0, 0, 0, 0, 1, 2, 0);
        sail(x, "when quiet ann; make c at ann; make d at ann; when quiet ann; make b at ann; end; end; make b at cid;", 0, 5,
            0, 0, 0, 0, 0, 13, 2, 2);
        sail(x, "when has ann c; out c at ann; when has ann c; stop; end; when has ann d; out d at ann; stop; end; end; wait 9;",
            0, 6, 0, 0, 0, 0, 0, 1, 2, 2);
        sail(x, "loop 2; loop 3; wait 1; end; wait 10; end;", 0, 11, 26);
        sail(x, "loop 5; wait 1; when day 3; stop; end; end;", 0, 1 + 3 * 2 + 1, 3);
        sail(x, "loop 99; end; wait 1;", 0, 2, 1);
        sail(x, "loop 3; when day 99; loop 9; wait 1; end; end; end;", 0, 4, 0);
    }

    private static void askSteps() {
        SwapBook x = bookOf();
        sail(x, "loop 99; wait 1; wait 1; wait 1; end; wait 99; wait 99; wait 99;", 0, 300, 297 + 198);
        sail(x, "loop 99; wait 1; wait 1; wait 1; end; wait 99; stop; wait 99;", 0, 300, 297 + 99);
        sail(x, "loop 99; loop 99; end; end; loop 99; wait 99; end; wait 1;", 0, 200 + 1, 99 * 99 + 1);
        sail(x, "loop 99; loop 99; wait 99; end; end;", 0, 300, 99 * (99 + 99 + 98));
    }

    private static void askWrong() {
        SwapBook x = bookOf();
        CHECK.due(x, "sailed(5)", x.sailed(5), -1, 5);
        CHECK.due(x, "sailed(0)", x.sailed(0), -1, 8);
        CHECK.due(x, "sail(-1)", x.sail(-1), -1, 5);
        CHECK.due(x, "sail(10000)", x.sail(10000), -1, 5);
        CHECK.due(x, "sail(9999)", x.sail(9999), -1, 8);
        CHECK.due(x, "agreed(0, 0)", x.agreed(0, 0), -1, 5);
        CHECK.due(x, "agreed(0, 31)", x.agreed(0, 31), -1, 5);
        CHECK.due(x, "agreed(-1, 2)", x.agreed(-1, 2), -1, 5);
        CHECK.due(x, "agreed(9971, 30)", x.agreed(9971, 30), -1, 5);
        CHECK.due(x, "agreed(far)", x.agreed(Integer.MAX_VALUE, 30), -1, 5);
        CHECK.due(x, "agreed(9970, 30)", x.agreed(9970, 30), -1, 8);
        sail(x, "wait 5;", 0, 1, 5);
        CHECK.due(x, "sail(10000)", x.sail(10000), -1, 5);
        CHECK.due(x, "sailed(0)", x.sailed(0), 5, 0);
        CHECK.due(x, "sailed(-1)", x.sailed(-1), -1, 5);
    }

    private static void askAgreed() {
        SwapBook x = bookOf();
        x.give(0, 1);
        Check.log(x, "ship ann to bob late 1; draw 1; ship ann to cid; wait 1;");
        int due = 0;
        for (int seed = 0; seed < 30; seed++) {
            due += (seed * 2749 + 9733) % 65536 / 8 % 16 < 1 ? 0 : 1;
        }
        CHECK.due(x, "agreed(0, 30)", x.agreed(0, 30), due, 0);
        CHECK.due("some, but not all", due > 0 && due < 30, true);
        CHECK.due(x, "agreed(0, 1)", x.agreed(0, 1), 0, 0);
        CHECK.due(x, "agreed(5, 1)", x.agreed(5, 1), 1, 0);
        CHECK.due(x, "agreed(9999, 1)", x.agreed(9999, 1) >= 0, true, 0);
        CHECK.due(x, "what they have stays", x.has(1) + x.has(2), 0, 0);
        CHECK.due(x, "it is no sail", x.sailed(0), -1, 8);
        SwapBook y = new SwapBook();
        Check.book(y, "island ann; put a key 1 says 1;");
        Check.log(y, "make a at ann;");
        CHECK.due(y, "one alone", y.agreed(0, 30), 30, 0);
    }
}
