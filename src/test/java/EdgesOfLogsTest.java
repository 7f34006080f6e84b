// The boundary cases of promises 11 to 14: LOGS and their FAULTS, what a BOOK has.
public final class EdgesOfLogsTest {
    private static final Edges EDGES = new Edges("EdgesOfLogsTest");
    private static final String[] STEPS = {"make", "ship", "out", "pick", "wait", "draw", "when", "loop", "stop"};
    private static final int FAR = Integer.MAX_VALUE;
    private static final int LOW = Integer.MIN_VALUE;

    public static void main(String[] args) {
        askLength();
        askTape();
        askOldOne();
        askEmpty();
        askNumbers();
        askNoToken();
        askMisplaced();
        askEnds();
        askNames();
        askSteps();
        askDepth();
        askFault();
        askMany();
        askChange();
        EDGES.end(11, 14);
    }

    private static void askLength() {
        String words = "A LOG is a TEXT of at most 300 bytes";
        EDGES.taken(11, words, 1, " ".repeat(295) + "stop;");
        EDGES.faulty(11, words, 2, " ".repeat(296) + "stop^");
        EDGES.faulty(11, words, 1, "stop;" + " ".repeat(294) + "^?");
        SwapBook x = EDGES.begin(11, "5: above 300, too");
        Check.feed(x, "stop;" + " ".repeat(315));
        EDGES.refuses(x, 5, "log", 301);
        EDGES.refuses(x, 5, "log", 320);
        EDGES.gives(x, 1, "log", 300);
        EDGES.refuses(x, 5, "log", 1);
        x = EDGES.begin(11, "5: above 300, too");
        Check.feed(x, " ".repeat(300));
        EDGES.refuses(x, 5, "log", 301);
        EDGES.gives(x, 0, "book", 300);
        // A BOOK may be longer than a LOG.
        Check.feed(x, " ".repeat(320));
        EDGES.gives(x, 0, "book", 301);
    }

    private static void askTape() {
        for (int n : new int[] {-1, 21, 301, FAR, LOW}) {
            EDGES.refused(11, "Likewise the LOG: how many STEPS (5: above 300, too; 10).", 5, "log", n);
        }
        SwapBook x = EDGES.begin(11, "Likewise the LOG: how many STEPS");
        Check.feed(x, "stop;wait 1;");
        EDGES.gives(x, 1, "log", 5);
        EDGES.refuses(x, 5, "log", 1);
        EDGES.gives(x, 0, "log", 0);
        Check.feed(x, "stop;");
        EDGES.refuses(x, 10, "log", 4);
        EDGES.refuses(x, 5, "log", 1);
        EDGES.gives(x, 20, "feed", 0, 0, 0, 0, 0);
    }

    private static void askOldOne() {
        EDGES.begin(11, "A call with another STATUS than 0 gives NONE, or false, and changes nothing but STATUS (but book(), log() with 10 the tape");
        SwapBook x = World.full();
        SwapBook twin = World.full();
        EDGES.refuses(x, 10, "log", 12);
        EDGES.changesOnly("log(12)", x, twin, "tape", "fault");
        EDGES.begin(11, "Likewise the LOG: how many STEPS");
        x = World.loaded();
        EDGES.gives(x, 6, "sail", 1);
        Check.feed(x, "stop;");
        EDGES.gives(x, 1, "log", 5);
        EDGES.gives(x, 1, "sail", 1);
        EDGES.gives(x, 7, "has", 0);
        EDGES.gives(x, 0, "orderAt", 0);
        EDGES.gives(x, 6, "many", 0);
    }

    private static void askEmpty() {
        EDGES.taken(11, "LOG: {STEP}.", 0, "");
        EDGES.taken(11, "LOG: {STEP}.", 0, " \n ");
        EDGES.faulty(11, "LOG: {STEP}.", 2, "^;");
        EDGES.taken(11, "when TEST ; {STEP} end ;", 1, "when day 0; end;");
        EDGES.taken(11, "loop NUMBER ; {STEP} end ;", 1, "loop 1; end;");
        SwapBook x = EDGES.begin(11, "(none at first)");
        EDGES.refuses(x, 8, "sail", 0);
        EDGES.gives(x, 0, "log", 0);
        EDGES.gives(x, 0, "sail", 0);
        EDGES.taken(11, "ship NAME to NAME [late NUMBER] [twice] ;", 4,
            "ship ann to bob; ship ann to bob late 1; ship ann to bob twice; ship ann to bob late 1 twice;");
    }

    private static void askNumbers() {
        String words = "4 a NUMBER that can't be.";
        EDGES.taken(11, "(0 to 9; 0 without)", 3, "ship ann to bob late 0; ship ann to bob late 9; ship ann to bob late 0009;");
        EDGES.faulty(11, words, 4, "ship ann to bob late ^10;");
        EDGES.faulty(11, words, 4, "ship ann to bob late ^9999 twice;");
        EDGES.taken(11, "draw n (0 to 16)", 2, "draw 0; draw 16;");
        EDGES.faulty(11, words, 4, "draw ^17;");
        EDGES.faulty(11, words, 4, "draw ^9999;");
        EDGES.taken(11, "wait n (1 to 99)", 2, "wait 1; wait 99;");
        EDGES.faulty(11, words, 4, "wait ^0;");
        EDGES.faulty(11, words, 4, "wait ^0000;");
        EDGES.faulty(11, words, 4, "wait ^100;");
        EDGES.taken(11, "day n (0 to 999)", 2, "when day 0; end; when day 999; end;");
        EDGES.faulty(11, words, 4, "when day ^1000; end;");
        EDGES.taken(11, "loop n (1 to 99)", 2, "loop 1; end; loop 99; end;");
        EDGES.faulty(11, words, 4, "loop ^0; end;");
        EDGES.faulty(11, words, 4, "loop ^100; end;");
        for (String step : new String[] {"wait", "draw", "loop", "when day", "ship ann to bob late"}) {
            EDGES.faulty(11, "(a NUMBER of 5 digits and more: at its first)", 1, step + " ^00001;");
            EDGES.faulty(11, "(a NUMBER of 5 digits and more: at its first)", 1, step + " ^12345;");
        }
    }

    private static void askNoToken() {
        EDGES.faulty(11, "FAULTS: 1, 2 as above", 1, "^?");
        EDGES.faulty(11, "FAULTS: 1, 2 as above", 1, "stop^?");
        EDGES.faulty(11, "FAULTS: 1, 2 as above", 1, "make ^A at ann;");
        EDGES.faulty(11, "FAULTS: 1, 2 as above", 1, "stop;^\tstop;");
        EDGES.faulty(11, "FAULTS: 1, 2 as above", 1, "when ^?");
        EDGES.faulty(11, "FAULTS: 1, 2 as above", 1, "loop 1;^?");
    }

    private static void askMisplaced() {
        String words = "FAULTS: 1, 2 as above";
        String[] wholes = {"make a at ann ;", "ship ann to bob late 1 twice ;", "out a at ann ;", "pick a at ann ;", "wait 1 ;", "draw 1 ;",
            "when has ann a ;", "when quiet ann ;", "when day 1 ;", "loop 1 ;", "stop ;"};
        for (String whole : wholes) {
            StringBuilder ahead = new StringBuilder();
            for (String token : whole.split(" ")) {
                if (ahead.length() > 0) {
                    EDGES.faulty(11, words, 2, ahead + "^");
                    EDGES.faulty(11, words, 2, ahead.toString().stripTrailing() + "^");
                }
                EDGES.faulty(11, words, 2, ahead + "^key");
                EDGES.faulty(11, words, 2, ahead + "^" + (token.matches("[0-9]") ? "a" : "7"));
                EDGES.faulty(11, words, 2, ahead + "^abcdefghi");
                ahead.append(token).append(" ");
            }
            EDGES.faulty(11, words, 2, ahead + "^;");
        }
        EDGES.faulty(11, words, 2, "ship ann to bob twice ^late 1;");
        EDGES.faulty(11, words, 2, "ship ann to bob twice ^twice;");
        EDGES.faulty(11, words, 2, "ship ann to bob late 1 ^late 1;");
        for (String word : World.KEYWORDS) {
            boolean begins = word.equals("end") || java.util.Arrays.asList(STEPS).contains(word);
            EDGES.faulty(11, words, 2, (begins ? "make " : "") + "^" + word + " at ann;");
        }
    }

    private static void askEnds() {
        String words = "(an end without a beginning; the text's end ahead of an end: 2)";
        EDGES.faulty(11, words, 2, "^end;");
        EDGES.faulty(11, words, 2, "stop; ^end;");
        EDGES.faulty(11, words, 2, "loop 1; end; ^end;");
        EDGES.faulty(11, words, 2, "loop 1; when day 1; end; end; ^end;");
        EDGES.faulty(11, words, 2, "loop 1;^");
        EDGES.faulty(11, words, 2, "when day 1; stop; \n ^");
        EDGES.faulty(11, words, 2, "loop 1; loop 1; end;^");
        EDGES.faulty(11, words, 2, "loop 1; end^");
        EDGES.faulty(11, words, 2, "loop 1; end ^end;");
    }

    private static void askNames() {
        String words = "3 a NAME that is no such thing.";
        for (String step : new String[] {"make", "out", "pick"}) {
            for (String name : new String[] {"ann", "z", "aa"}) {
                EDGES.faulty(11, words, 3, step + " ^" + name + " at ann;");
            }
            for (String name : new String[] {"a", "z", "an"}) {
                EDGES.faulty(11, words, 3, step + " f at ^" + name + ";");
            }
        }
        EDGES.faulty(11, words, 3, "ship ^a to bob;");
        EDGES.faulty(11, words, 3, "ship ^z to bob;");
        EDGES.faulty(11, words, 3, "ship ann to ^a;");
        EDGES.faulty(11, words, 3, "ship ann to ^z late 10;");
        EDGES.faulty(11, words, 3, "when has ^a a; end;");
        EDGES.faulty(11, words, 3, "when has ann ^ann; end;");
        EDGES.faulty(11, words, 3, "when has ann ^z; end;");
        EDGES.faulty(11, words, 3, "when quiet ^a; end;");
        EDGES.taken(11, "NAMES are the BOOK's as it is", 3, "make a at bob; make f at ann; ship bob to bob;");
        SwapBook x = EDGES.begin(11, words);
        Check.feed(x, "make a at ann;");
        EDGES.refuses(x, 10, "log", 14);
        EDGES.gives(x, 3, "fault", 0);
        EDGES.gives(x, 5, "fault", 1);
    }

    private static void askSteps() {
        String words = "6 a 31st STEP (at its WORD; end is none).";
        String thirty = "stop;".repeat(30);
        EDGES.taken(11, words, 30, thirty);
        for (String step : STEPS) {
            EDGES.faulty(11, words, 6, thirty + "^" + step);
            EDGES.faulty(11, words, 6, thirty + "^" + step + " 1;");
        }
        EDGES.faulty(11, words, 2, thirty + "^end;");
        EDGES.faulty(11, words, 2, thirty + "^key");
        EDGES.faulty(11, words, 1, thirty + "^?");
        EDGES.taken(11, words, 30, "loop1;".repeat(3) + "stop;".repeat(27) + "end;".repeat(3));
        EDGES.taken(11, words, 30, "loop1;end;".repeat(30));
        EDGES.faulty(11, words, 6, "loop1;".repeat(3) + "stop;".repeat(27) + "end;" + "^stop;");
        // Of one TOKEN the least kind: it would be a 7, too.
        EDGES.faulty(11, "of one TOKEN the least kind", 6, "stop;".repeat(27) + "loop1;".repeat(3) + "^loop 1;");
        EDGES.faulty(11, "of one TOKEN the least kind", 6, "stop;".repeat(27) + "loop1;".repeat(3) + "^when");
    }

    private static void askDepth() {
        String words = "7 a when, loop within three others (at its WORD).";
        for (String inner : new String[] {"when day 1;", "loop 1;"}) {
            EDGES.taken(11, words, 3, "loop 1; when day 0; " + inner + " end; end; end;");
            EDGES.taken(11, words, 5, "loop 1; when day 0; " + inner + " end; end; " + inner + inner + " end; end; end;");
            EDGES.faulty(11, words, 7, "loop 1; when day 0; loop 1; ^" + inner);
            EDGES.faulty(11, words, 7, "loop 1; when day 0; when day 0; stop; ^" + inner);
            EDGES.faulty(11, words, 7, "loop 1; loop 1; loop 1; end; loop 1; ^" + inner);
        }
        EDGES.faulty(11, words, 7, "loop 1; loop 1; loop 1; ^loop 0;");
        EDGES.faulty(11, words, 7, "loop 1; loop 1; loop 1; ^when ?");
        EDGES.taken(11, words, 4, "loop 1; loop 1; loop 1; stop; end; end; end;");
    }

    private static void askFault() {
        SwapBook x = EDGES.begin(12, "Of the latest of these with STATUS 0 or 10");
        Check.log(x, "wait 0;");
        EDGES.gives(x, 4, "fault", 0);
        EDGES.gives(x, 5, "fault", 1);
        EDGES.refuses(x, 5, "log", 1);
        EDGES.gives(x, 4, "fault", 0);
        EDGES.gives(x, 5, "fault", 1);
        Check.log(x, "wait 1;");
        EDGES.gives(x, 0, "fault", 0);
        EDGES.gives(x, -1, "fault", 1);
    }

    private static void askMany() {
        for (int what : new int[] {-1, 4, FAR, LOW}) {
            EDGES.refused(13, "5 a number that can't be.", 5, "many", what);
        }
        SwapBook x = EDGES.begin(13, "couples that would QUARREL (3)");
        Check.book(x, "island w;island x;island y;island z;" + World.fan("name", "says 1"));
        EDGES.gives(x, 16, "many", 0);
        EDGES.gives(x, 4, "many", 1);
        EDGES.gives(x, 1, "many", 2);
        EDGES.gives(x, 105, "many", 3);
        x = EDGES.begin(13, "How many CHANGES (what 0), ISLANDS (1), THINGS (2)");
        for (int what = 0; what < 4; what++) {
            EDGES.gives(x, 0, "many", what);
        }
    }

    private static void askChange() {
        for (int change : new int[] {-1, 6, 16, 32, FAR, LOW}) {
            EDGES.refused(14, "2 no such CHANGE, ISLAND", 2, "change", change, 0);
            EDGES.refused(14, "(2; 5)", 2, "change", change, 5);
        }
        for (int what : new int[] {-1, 5, FAR, LOW}) {
            EDGES.refused(14, "(2; 5)", 5, "change", 0, what);
            EDGES.refused(14, "(2; 5)", 5, "change", 5, what);
        }
        EDGES.refused(14, "what a PUT SAYS (8: it is none)", 8, "change", 2, 2);
        EDGES.refused(14, "what a PUT SAYS (8: it is none)", 8, "change", 4, 2);
        EDGES.refused(14, "what a PUT SAYS (8: it is none)", 8, "change", 5, 2);
        SwapBook x = EDGES.begin(14, "(TAKE, SETTLE: NONE with STATUS 0; PUT: its KEY)");
        Check.book(x, "put a key 5 says 1; name b of a says 2; take c of a; settle d of b not c; move e of b key 0;");
        EDGES.gives(x, 5, "change", 0, 1);
        EDGES.gives(x, 2, "change", 1, 1);
        EDGES.gives(x, -1, "change", 2, 1);
        EDGES.gives(x, -1, "change", 3, 1);
        EDGES.gives(x, 0, "change", 4, 1);
        EDGES.refuses(x, 8, "change", 2, 2);
        EDGES.refuses(x, 8, "change", 3, 2);
        x = EDGES.begin(14, "LEVEL of a CHANGE: 0 if it hangs on nothing");
        Check.book(x, "put a key 1 says 1; put b key 1 says 1 after a; put c key 1 says 1; put d key 1 says 1 after c b;"
            + "take e of c after d; take f of c;");
        int[] levels = {0, 1, 0, 2, 3, 1};
        for (int change = 0; change < levels.length; change++) {
            EDGES.gives(x, levels[change], "change", change, 4);
        }
        x = EDGES.begin(14, "3: its THING's PUT (SETTLE: of the first)");
        Check.book(x, "put a key 1 says 1; put b key 1 says 1; name c of b says 1; take d of b after a; settle e of d not c;");
        int[] things = {0, 1, 1, 1, 1};
        for (int change = 0; change < things.length; change++) {
            EDGES.gives(x, things[change], "change", change, 3);
        }
        askLongChain();
    }

    private static void askLongChain() {
        SwapBook x = EDGES.begin(14, "else one more than the greatest of those that it needs directly");
        Check.book(x, World.chain());
        for (int change = 0; change < 16; change++) {
            EDGES.gives(x, change, "change", change, 4);
            EDGES.gives(x, 0, "change", change, 3);
        }
        EDGES.refuses(x, 2, "change", 16, 4);
    }
}
