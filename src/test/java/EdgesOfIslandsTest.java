// The boundary cases of promises 43 to 47: ISLANDS, ships, draws.
public final class EdgesOfIslandsTest {
    private static final Edges EDGES = new Edges("EdgesOfIslandsTest");
    // a 0, b 1, c 2 and d 3 names of a, e 4 a move of c.
    private static final String TEXT = "island ann; island bob; island cid; put a key 5 says 1; put b key 3 says 2;"
        + "name c of a says 7; name d of a says 8; move e of c key 1;";
    private static final int FAR = Integer.MAX_VALUE;
    private static final int LOW = Integer.MIN_VALUE;

    public static void main(String[] args) {
        askHas();
        askGive();
        askMake();
        askOut();
        askPick();
        askSameIsland();
        askLate();
        askTwice();
        askCargoes();
        askDraws();
        askLatestShip();
        askDays();
        askTests();
        askLoops();
        askSteps();
        askSeeds();
        askSailed();
        askAgreed();
        askAgreedRefused();
        EDGES.end(43, 47);
    }

    private static SwapBook beginIsles(int promise, String words) {
        SwapBook x = EDGES.begin(promise, words);
        Check.book(x, TEXT);
        x.give(0, 1);
        return x;
    }

    // Sails by a LOG: the STEPS, then what sailed() tells, then what the ISLANDS have.
    private static void sail(SwapBook x, String log, int seed, int steps, int... due) {
        EDGES.due(log + " is taken", Check.log(x, log) >= 0 ? 1 : 0, 1);
        EDGES.due(log, x.sail(seed), steps);
        for (int i = 0; i < due.length; i++) {
            EDGES.due(log + (i < 5 ? " sailed " : " has ") + i % 5, i < 5 ? x.sailed(i) : x.has(i - 5), due[i]);
        }
    }

    private static void askHas() {
        for (int island : new int[] {-1, 2, 3, 4, FAR, LOW}) {
            EDGES.refused(43, "2 no such CHANGE, ISLAND", 2, "has", island);
        }
        EDGES.refusedIn(SwapBook::new, 43, "2 no such CHANGE, ISLAND", 2, "has", 0);
        SwapBook x = EDGES.begin(43, "What an ISLAND has");
        Check.book(x, "island w;island x;island y;island z;put a key 1 says 1;");
        for (int island = 0; island < 4; island++) {
            EDGES.gives(x, 0, "has", island);
            EDGES.gives(x, 1, "give", island, 1);
            EDGES.gives(x, 1, "has", island);
        }
        EDGES.refuses(x, 2, "has", 4);
    }

    private static void askGive() {
        for (int island : new int[] {-1, 2, 3, 4, FAR, LOW}) {
            EDGES.refused(44, "(2; 9)", 2, "give", island, 1);
            EDGES.refused(44, "(2; 9)", 2, "give", island, 4);
        }
        for (int set : new int[] {-1, 64, 127, 65536, FAR, LOW}) {
            EDGES.refused(44, "a SET with others", 2, "give", 0, set);
        }
        EDGES.refused(44, "(2; 9)", 9, "give", 0, 4);
        EDGES.refused(44, "(2; 9)", 9, "give", 1, 62);
        SwapBook x = beginIsles(44, "It has this SET");
        EDGES.gives(x, 1, "give", 2, 31);
        EDGES.gives(x, 31, "has", 2);
        EDGES.gives(x, 1, "give", 2, 0);
        EDGES.gives(x, 0, "has", 2);
        EDGES.gives(x, 1, "has", 0);
    }

    private static void askMake() {
        SwapBook x = beginIsles(45, "make: an ISLAND gets a CHANGE, if it has all that it hangs on (else MISSED).");
        sail(x, "make c at bob;", 0, 1, 0, 1, 0, 0, 0, 1, 0, 0);
        sail(x, "make e at ann;", 0, 1, 0, 1, 0, 0, 0, 1, 0, 0);
        sail(x, "make c at ann;", 0, 1, 0, 0, 0, 0, 0, 5, 0, 0);
        sail(x, "make c at ann;", 0, 1, 0, 0, 0, 0, 0, 5, 0, 0);
        sail(x, "make a at cid;", 0, 1, 0, 0, 0, 0, 0, 5, 0, 1);
    }

    private static void askOut() {
        SwapBook x = beginIsles(45, "out: OUT at an ISLAND (nothing, if it has not that).");
        sail(x, "out b at ann;", 0, 1, 0, 0, 0, 0, 0, 1, 0, 0);
        sail(x, "out a at bob;", 0, 1, 0, 0, 0, 0, 0, 1, 0, 0);
        x.give(0, 31);
        sail(x, "out c at ann;", 0, 1, 0, 0, 0, 0, 0, 0b01011, 0, 0);
        sail(x, "out a at ann;", 0, 1, 0, 0, 0, 0, 0, 0b00010, 0, 0);
    }

    private static void askPick() {
        SwapBook x = beginIsles(45, "pick: it gets a CHANGE with all that it hangs on, if any ISLAND has it (else MISSED).");
        x.give(0, 0);
        x.give(2, 21);
        sail(x, "pick b at ann;", 0, 1, 0, 1, 0, 0, 0, 0, 0, 21);
        sail(x, "pick e at ann;", 0, 1, 0, 0, 0, 0, 0, 21, 0, 21);
        sail(x, "pick e at cid;", 0, 1, 0, 0, 0, 0, 0, 21, 0, 21);
        sail(x, "pick c at bob;", 0, 1, 0, 0, 0, 0, 0, 21, 5, 21);
        sail(x, "out a at ann; out a at cid; pick e at bob;", 0, 3, 0, 1, 0, 0, 0, 0, 5, 0);
        // The first ISLAND alone has it, or the last one alone.
        sail(x, "out a at bob; make a at ann; pick a at bob;", 0, 3, 0, 0, 0, 0, 0, 1, 1, 0);
        sail(x, "out a at ann; out a at bob; make b at cid; pick b at ann;", 0, 4, 0, 0, 0, 0, 0, 2, 0, 2);
    }

    private static void askSameIsland() {
        SwapBook x = beginIsles(45, "is on its way to another one (the same: MISSED)");
        sail(x, "ship ann to ann;", 0, 1, 0, 1, 0, 0, 0, 1, 0, 0);
        sail(x, "ship ann to ann late 1 twice; wait 9;", 0, 2, 9, 1, 0, 0, 0, 1, 0, 0);
    }

    private static void askLate() {
        SwapBook x = beginIsles(45, "DAYS later at the beginning of that DAY (0: at once)");
        sail(x, "ship ann to bob; out a at ann;", 0, 2, 0, 0, 1, 0, 0, 0, 1, 0);
        sail(x, "ship bob to cid late 0; when has cid a; make b at bob; end;", 0, 3, 0, 0, 1, 0, 0, 0, 3, 1);
        x = beginIsles(45, "DAYS later at the beginning of that DAY (0: at once)");
        sail(x, "ship ann to bob late 1;", 0, 1, 0, 0, 0, 0, 1, 1, 0, 0);
        sail(x, "ship ann to bob late 1; wait 1; when has bob a; make b at bob; end;", 0, 4, 1, 0, 1, 0, 0, 1, 3, 0);
        sail(x, "ship ann to cid late 9; wait 8; when has cid a; stop; end; wait 1; when has cid a; stop; end; wait 1;", 0, 6,
            9, 0, 1, 0, 0, 1, 3, 1);
        // An ISLAND without anything ships nothing, but it is a cargo all the same.
        x = beginIsles(45, "what an ISLAND has now is on its way to another one");
        sail(x, "ship bob to cid; ship bob to cid late 1;", 0, 2, 0, 0, 1, 0, 1, 1, 0, 0);
        sail(x, "ship ann to bob late 1; make b at ann; wait 1;", 0, 3, 1, 0, 1, 0, 0, 3, 1, 0);
        sail(x, "ship bob to ann late 1; out b at ann; wait 1;", 0, 3, 1, 0, 1, 0, 0, 1, 1, 0);
    }

    private static void askTwice() {
        SwapBook x = beginIsles(45, "twice: once more a DAY later.");
        sail(x, "ship ann to bob twice;", 0, 1, 0, 0, 1, 0, 1, 1, 1, 0);
        sail(x, "ship ann to bob twice; out a at bob; wait 1;", 0, 3, 1, 0, 2, 0, 0, 1, 1, 0);
        sail(x, "ship ann to cid late 9 twice; wait 9; out a at cid;", 0, 3, 9, 0, 1, 0, 1, 1, 1, 0);
        sail(x, "ship ann to cid late 9 twice; wait 9; out a at cid; wait 1;", 0, 4, 10, 0, 2, 0, 0, 1, 1, 1);
    }

    private static void askCargoes() {
        String words = "At most 20 cargoes are on their way at one time (more: none of them sets out, MISSED).";
        SwapBook x = beginIsles(45, words);
        sail(x, "loop 20; ship ann to bob late 1; end;", 0, 21, 0, 0, 0, 0, 20, 1, 0, 0);
        sail(x, "loop 21; ship ann to bob late 1; end;", 0, 22, 0, 1, 0, 0, 20, 1, 0, 0);
        sail(x, "loop 10; ship ann to bob late 1 twice; end;", 0, 11, 0, 0, 0, 0, 20, 1, 0, 0);
        sail(x, "loop 11; ship ann to bob late 1 twice; end;", 0, 12, 0, 1, 0, 0, 20, 1, 0, 0);
        // Both of a ship, or none: one place is left.
        sail(x, "loop 19; ship ann to bob late 1; end; ship ann to cid late 1 twice;", 0, 21, 0, 1, 0, 0, 19, 1, 0, 0);
        sail(x, "loop 19; ship ann to bob late 1; end; ship ann to cid late 1 twice; wait 9;", 0, 22, 9, 1, 19, 0, 0, 1, 1, 0);
        // When some have come or are lost, there is room again.
        sail(x, "loop 20; ship ann to bob late 1; end; wait 1; loop 20; ship ann to bob late 1; end;", 0, 43, 1, 0, 20, 0, 20);
        sail(x, "loop 20; ship ann to bob late 1; end; draw 16; ship ann to cid late 1; wait 1;", 0, 24, 1, 0, 20, 1, 0, 1, 1, 1);
        // What comes at once is never on its way.
        x = beginIsles(45, words);
        sail(x, "loop 20; ship ann to bob late 1; end; ship ann to cid;", 0, 22, 0, 0, 1, 0, 20, 1, 0, 1);
        sail(x, "loop 21; ship ann to bob; end;", 0, 22, 0, 0, 21, 0, 0, 1, 1, 1);
    }

    private static void askDraws() {
        String words = "draw n (0 to 16): a draw by 16; less than that";
        // Of the seed 0 the draws are 0, 6; of the seed 9999, far above 65,536 in between, 3.
        SwapBook x = beginIsles(45, words);
        sail(x, "ship ann to bob late 1; draw 0;", 0, 2, 0, 0, 0, 0, 1);
        sail(x, "ship ann to bob late 1; draw 1;", 0, 2, 0, 0, 0, 1, 0);
        sail(x, "draw 0; ship ann to bob late 1; draw 6;", 0, 3, 0, 0, 0, 0, 1);
        sail(x, "draw 0; ship ann to bob late 1; draw 7;", 0, 3, 0, 0, 0, 1, 0);
        sail(x, "ship ann to bob late 1; draw 3;", 9999, 2, 0, 0, 0, 0, 1);
        sail(x, "ship ann to bob late 1; draw 4;", 9999, 2, 0, 0, 0, 1, 0);
        x = beginIsles(45, "becomes what is left of s times 2,749 and 9,733 by 65,536");
        for (int seed = 0; seed < 10000; seed += 1111) {
            int s = seed;
            for (int draws = 1; draws < 4; draws++) {
                s = (int) ((s * 2749L + 9733) % 65536);
                int drawn = s / 8 % 16;
                String log = "draw 0;".repeat(draws - 1) + "ship ann to bob late 1; draw ";
                sail(x, log + drawn + ";", seed, draws + 1, 0, 0, 0, 0, 1);
                sail(x, log + (drawn + 1) + ";", seed, draws + 1, 0, 0, 0, 1, 0);
            }
            x = beginIsles(45, "becomes what is left of s times 2,749 and 9,733 by 65,536");
        }
        x = beginIsles(45, "draw n (0 to 16)");
        for (int seed = 0; seed < 16; seed++) {
            sail(x, "ship ann to bob late 1; draw 16;", seed, 2, 0, 0, 0, 1, 0);
            sail(x, "ship ann to bob late 1; draw 0;", seed, 2, 0, 0, 0, 0, 1);
        }
    }

    private static void askLatestShip() {
        SwapBook x = beginIsles(45, "of those on their way that or those that set out latest (by one ship) are lost");
        sail(x, "draw 16;", 0, 1, 0, 0, 0, 0, 0, 1, 0, 0);
        sail(x, "ship ann to bob; draw 16;", 0, 2, 0, 0, 1, 0, 0, 1, 1, 0);
        sail(x, "ship ann to bob late 1; ship ann to cid late 9 twice; draw 16;", 0, 3, 0, 0, 0, 2, 1);
        sail(x, "ship ann to bob late 9; ship ann to cid late 1; draw 16; wait 9;", 0, 4, 9, 0, 1, 1, 0, 1, 1, 0);
        sail(x, "ship ann to bob late 9; ship ann to cid late 1; wait 1; draw 16;", 0, 4, 1, 0, 1, 1, 0, 1, 1, 1);
        sail(x, "ship ann to bob late 3 twice; wait 3; draw 16;", 0, 3, 3, 0, 1, 1, 0);
        sail(x, "ship ann to bob twice; draw 16;", 0, 2, 0, 0, 1, 1, 0);
        // Two ships with one cargo each: the draw takes one of them alone.
        sail(x, "ship ann to bob late 1; ship ann to bob late 1; draw 16;", 0, 3, 0, 0, 0, 1, 1);
        sail(x, "ship ann to bob late 1; ship ann to bob late 1; draw 16; draw 16; draw 16;", 0, 5, 0, 0, 0, 2, 0);
        // A ship that was MISSED did not set out.
        sail(x, "ship ann to bob late 1; ship ann to ann late 1; draw 16;", 0, 3, 0, 1, 0, 1, 0);
    }

    private static void askDays() {
        SwapBook x = beginIsles(45, "wait n (1 to 99): so many DAYS: in each what is due comes, as it set out.");
        sail(x, "wait 1;", 0, 1, 1);
        sail(x, "wait 99;", 0, 1, 99);
        sail(x, "wait 99; wait 99;", 0, 2, 198);
        sail(x, "ship ann to bob late 1; ship ann to cid late 2; wait 99;", 0, 3, 99, 0, 2, 0, 0, 1, 1, 1);
        // Those that set out later come later, with what they carry, to where they go.
        x = beginIsles(45, "in each what is due comes, as it set out");
        x.give(1, 2);
        sail(x, "ship ann to cid late 1; ship bob to ann late 3; wait 1; out a at cid; wait 1; when has ann b; stop; end;", 0, 6,
            2, 0, 1, 0, 1, 1, 2, 0);
        sail(x, "ship ann to cid late 1; ship bob to ann late 3; wait 1; out a at cid; wait 2; when has ann b; stop; end;", 0, 7,
            3, 0, 2, 0, 0, 3, 2, 0);
        sail(x, "ship ann to bob late 1; ship ann to bob late 5; ship ann to bob late 5 twice; wait 1; draw 16;", 0, 5, 1, 0, 1, 2, 1);
        x = beginIsles(45, "from what ISLANDS have now, DAY 0; behind it they have what they have then (what is on its way is lost)");
        sail(x, "ship ann to bob late 1; when day 1; stop; end;", 0, 2, 0, 0, 0, 0, 1, 1, 0, 0);
        sail(x, "wait 9;", 0, 1, 9, 0, 0, 0, 0, 1, 0, 0);
    }

    private static void askTests() {
        SwapBook x = beginIsles(45, "day n (0 to 999): it is DAY n or later");
        sail(x, "when day 0; make b at bob; end;", 0, 2, 0, 0, 0, 0, 0, 1, 2, 0);
        sail(x, "when day 1; make b at cid; end;", 0, 1, 0, 0, 0, 0, 0, 1, 2, 0);
        sail(x, "wait 5; when day 5; make b at cid; end; when day 6; make a at cid; end;", 0, 4, 5, 0, 0, 0, 0, 1, 2, 2);
        sail(x, "loop 10; wait 99; end; wait 9; when day 999; wait 1; end; when day 999; wait 1; end;", 0, 16, 1001);
        x = beginIsles(45, "when has: it has it; quiet: what it has is QUIET");
        sail(x, "when has bob a; stop; end; when has ann b; stop; end; when has ann a; wait 1; end;", 0, 4, 1);
        sail(x, "when quiet bob; wait 1; end; when quiet ann; wait 1; end;", 0, 4, 2);
        x.give(0, 0b1101);
        sail(x, "when quiet ann; wait 1; end; when quiet bob; wait 2; end;", 0, 3, 2);
    }

    private static void askLoops() {
        SwapBook x = beginIsles(45, "loop n (1 to 99): as often.");
        sail(x, "loop 1; wait 1; end;", 0, 2, 1);
        sail(x, "loop 99; wait 1; end;", 0, 100, 99);
        sail(x, "loop 99; end;", 0, 1, 0);
        sail(x, "loop 3; loop 2; wait 1; end; end;", 0, 1 + 3 * 3, 6);
        sail(x, "loop 2; loop 2; loop 2; wait 1; end; end; end; wait 10;", 0, 1 + 2 + 4 + 8 + 1, 18);
        x = beginIsles(45, "stop: all is over.");
        sail(x, "stop; wait 1;", 0, 1, 0);
        sail(x, "loop 9; wait 1; when day 2; stop; end; end; wait 50;", 0, 6, 2);
    }

    private static void askSteps() {
        SwapBook x = beginIsles(45, "At most 300 STEPS (when, loop count as one each time they are come to from ahead; end does not).");
        sail(x, "loop 99; wait 1; wait 1; wait 1; end; wait 1; wait 1;", 0, 300, 299);
        sail(x, "loop 99; wait 1; wait 1; wait 1; end; wait 1;", 0, 299, 298);
        sail(x, "loop 99; wait 1; wait 1; wait 1; end; wait 1; wait 1; wait 1;", 0, 300, 299);
        sail(x, "loop 99; wait 1; wait 1; wait 1; end; wait 1; stop; wait 1;", 0, 300, 298);
        sail(x, "loop 99; loop 2; end; wait 1; when day 0; end; end; wait 7; wait 8; wait 9;", 0, 300, 99 + 7 + 8);
        sail(x, "loop 99; loop 99; loop 99; end; end; end;", 0, 300, 0);
        sail(x, "loop 99; when day 99; end; end;", 0, 100, 0);
        // MISSED ones are STEPS, too.
        sail(x, "loop 99; make c at bob; make c at bob; make c at bob; end; make c at bob; make c at bob; make c at bob;", 0, 300, 0, 299);
    }

    private static void askSeeds() {
        for (int seed : new int[] {-1, 10000, FAR, LOW}) {
            EDGES.refused(45, "SAILED by a seed (0 to 9,999)", 5, "sail", seed);
            EDGES.refusedIn(World::plain, 45, "(5; 8: no LOG)", 5, "sail", seed);
        }
        EDGES.refusedIn(World::plain, 45, "(5; 8: no LOG)", 8, "sail", 0);
        EDGES.refusedIn(World::plain, 45, "(5; 8: no LOG)", 8, "sail", 9999);
        SwapBook x = beginIsles(45, "SAILED by a seed (0 to 9,999)");
        sail(x, "wait 1;", 0, 1, 1);
        sail(x, "wait 1;", 9999, 1, 1);
        // Without a BOOK there can be a LOG, too.
        x = EDGES.begin(45, "SAILED by a seed (0 to 9,999)");
        sail(x, "wait 1; draw 16;", 1, 2, 1);
    }

    private static void askSailed() {
        for (int what : new int[] {-1, 5, FAR, LOW}) {
            EDGES.refused(46, "(5; 8: there was none)", 5, "sailed", what);
            EDGES.refusedIn(World::plain, 46, "(5; 8: there was none)", 5, "sailed", what);
        }
        for (int what = 0; what < 5; what++) {
            EDGES.refusedIn(World::plain, 46, "(5; 8: there was none)", 8, "sailed", what);
        }
        SwapBook x = beginIsles(46, "Of sail() latest with STATUS 0");
        Check.log(x, "wait 7;");
        EDGES.refuses(x, 8, "sailed", 0);
        EDGES.gives(x, 0, "agreed", 0, 1);
        EDGES.refuses(x, 8, "sailed", 0);
        EDGES.gives(x, 1, "sail", 0);
        EDGES.refuses(x, 5, "sail", 10000);
        EDGES.gives(x, 7, "sailed", 0);
        EDGES.gives(x, 0, "log", 0);
        EDGES.gives(x, 7, "sailed", 0);
        EDGES.gives(x, 0, "sail", 0);
        for (int what = 0; what < 5; what++) {
            EDGES.gives(x, 0, "sailed", what);
        }
    }

    private static void askAgreed() {
        String words = "Behind how many of so many seeds (1 to 30) from one on all ISLANDS have the same (what they have stays)";
        SwapBook x = beginIsles(47, words);
        Check.log(x, "ship ann to bob late 1; draw 8; ship ann to cid; wait 1;");
        int all = 0;
        for (int seed = 9970; seed <= 9999; seed++) {
            int due = (int) ((seed * 2749L + 9733) % 65536) / 8 % 16 < 8 ? 0 : 1;
            EDGES.gives(x, due, "agreed", seed, 1);
            all += due;
        }
        EDGES.gives(x, all, "agreed", 9970, 30);
        EDGES.gives(x, 0, "has", 1);
        EDGES.gives(x, 0, "has", 2);
        EDGES.refuses(x, 8, "sailed", 0);
        x = beginIsles(47, words);
        Check.log(x, "ship ann to bob;");
        EDGES.gives(x, 0, "agreed", 0, 30);
        Check.log(x, "ship ann to bob; ship ann to cid;");
        EDGES.gives(x, 30, "agreed", 0, 30);
        x = EDGES.begin(47, words);
        Check.book(x, "island ann; put a key 1 says 1;");
        Check.log(x, "make a at ann;");
        EDGES.gives(x, 30, "agreed", 0, 30);
        EDGES.gives(x, 1, "agreed", 9999, 1);
        EDGES.gives(x, 0, "has", 0);
    }

    private static void askAgreedRefused() {
        String words = "(5: the last above 9,999, too; 8)";
        int[][] wrong = {{-1, 1}, {-1, 2}, {0, 0}, {0, -1}, {0, 31}, {9999, 2}, {9971, 30}, {10000, 1}, {10000, 0}, {FAR, 1}, {FAR, 30},
            {0, FAR}, {FAR, FAR}, {LOW, 1}, {LOW, LOW}, {0, LOW}, {9999, LOW}};
        for (int[] two : wrong) {
            EDGES.refused(47, words, 5, "agreed", two[0], two[1]);
            EDGES.refusedIn(World::plain, 47, words, 5, "agreed", two[0], two[1]);
        }
        EDGES.refusedIn(World::plain, 47, words, 8, "agreed", 0, 1);
        EDGES.refusedIn(World::plain, 47, words, 8, "agreed", 9970, 30);
        EDGES.refusedIn(SwapBook::new, 47, words, 8, "agreed", 9999, 1);
    }
}
