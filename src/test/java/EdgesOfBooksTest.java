// The boundary cases of promises 9, 10 and 12: the tape, BOOKS and their FAULTS.
public final class EdgesOfBooksTest {
    private static final Edges EDGES = new Edges("EdgesOfBooksTest");
    private static final String A = "put a key 5 says 1;";
    // a 0, b 1, c 2, t 3, s 4
    private static final String FIVE = A + "name b of a says 2;move c of b key 3;take t of a;settle s of b not t;";
    private static final int BLANKS = 0x20202020;

    public static void main(String[] args) {
        askFeed();
        askFeedRefused();
        askLength();
        askTape();
        askOldOne();
        askNewOne();
        askTokens();
        askEmpty();
        askNames();
        askTakenNames();
        askLimits();
        askNumbers();
        askFirst();
        askNoToken();
        askMisplaced();
        askAbsent();
        askOf();
        askSettle();
        askAfter();
        askFault();
        EDGES.end(9, 10);
    }

    // Names of 1 to 8 times the same letter: all of them are others.
    private static String putsByLength(char letter) {
        StringBuilder text = new StringBuilder();
        for (int length = 1; length <= 8; length++) {
            text.append("put ").append(String.valueOf(letter).repeat(length)).append(" key 1 says 1;");
        }
        return text.toString();
    }

    // Blanks ahead of a text, so that it is of a length.
    private static String padded(String text, int length) {
        return " ".repeat(length - text.length()) + text;
    }

    private static void askFeed() {
        SwapBook x = EDGES.begin(9, "NONE if there would be more than 900.");
        for (int fed = 20; fed <= 900; fed += 20) {
            EDGES.gives(x, fed, "feed", BLANKS, BLANKS, BLANKS, BLANKS, BLANKS);
        }
        EDGES.gives(x, -1, "feed", 0, 0, 0, 0, 0);
        EDGES.gives(x, -1, "feed", 0, 0, 0, 0, 0);
        EDGES.gives(x, 0, "book", 900);
        EDGES.gives(x, 20, "feed", 0, 0, 0, 0, 0);
        x = EDGES.begin(9, "Twenty bytes come behind those on the tape, the highest of each int first");
        // put / a ke / y 5 / says /  1;. and then bytes of which none begins a token
        EDGES.gives(x, 20, "feed", 0x70757420, 0x61206b65, 0x79203520, 0x73617973, 0x20313bff);
        EDGES.gives(x, 40, "feed", -1, Integer.MIN_VALUE, Integer.MAX_VALUE, 0, 0x80ff7f00);
        EDGES.gives(x, 1, "book", 19);
        EDGES.gives(x, 20, "feed", 0x70757420, 0x61206b65, 0x79203520, 0x73617973, 0x20313bff);
        EDGES.refuses(x, 10, "book", 20);
        EDGES.gives(x, 1, "fault", 0);
        EDGES.gives(x, 19, "fault", 1);
    }

    private static void askFeedRefused() {
        EDGES.begin(9, "NONE if there would be more than 900.");
        SwapBook x = World.full();
        SwapBook twin = World.full();
        for (int fed = 40; fed <= 900; fed += 20) {
            x.feed(BLANKS, BLANKS, BLANKS, BLANKS, BLANKS);
            twin.feed(BLANKS, BLANKS, BLANKS, BLANKS, BLANKS);
        }
        x.back();
        twin.back();
        EDGES.gives(x, -1, "feed", -1, -1, -1, -1, -1);
        EDGES.gives(x, 0, "status");
        EDGES.changesOnly("feed", x, twin);
    }

    private static void askLength() {
        EDGES.taken(10, "A BOOK is a TEXT of at most 900 bytes.", 1, padded(A, 900));
        EDGES.faulty(10, "A BOOK is a TEXT of at most 900 bytes.", 2, padded("put a key 5 says 1", 900) + "^");
        EDGES.faulty(10, "A BOOK is a TEXT of at most 900 bytes.", 1, A + " ".repeat(900 - A.length() - 1) + "^?");
        SwapBook x = EDGES.begin(10, "A BOOK is a TEXT of at most 900 bytes.");
        Check.feed(x, " ".repeat(900));
        EDGES.refuses(x, 5, "book", 901);
        EDGES.gives(x, 0, "book", 900);
        // Tokens without a blank between them are the most that a text can have.
        EDGES.faulty(10, "A BOOK is a TEXT of at most 900 bytes.", 2, "^" + ";".repeat(900));
    }

    private static void askTape() {
        String words = "The first n bytes of the tape (which is empty then, but for 5)";
        for (int n : new int[] {-1, 21, Integer.MAX_VALUE, Integer.MIN_VALUE}) {
            EDGES.refused(10, words, 5, "book", n);
        }
        SwapBook x = EDGES.begin(10, words);
        Check.feed(x, A + A);
        EDGES.refuses(x, 5, "book", 41);
        EDGES.gives(x, 1, "book", 19);
        EDGES.refuses(x, 5, "book", 1);
        EDGES.gives(x, 0, "book", 0);
        EDGES.gives(x, 0, "many", 0);
        EDGES.gives(x, 20, "feed", 0, 0, 0, 0, 0);
        EDGES.refuses(x, 10, "book", 20);
        EDGES.refuses(x, 5, "book", 1);
        Check.feed(x, A);
        EDGES.gives(x, 1, "book", 20);
        x = EDGES.begin(10, words);
        Check.feed(x, A);
        EDGES.gives(x, 0, "book", 0);
        EDGES.refuses(x, 5, "book", 1);
        // What stood on the tape ahead must not be read behind the text's end.
        x = EDGES.begin(10, words);
        Check.book(x, "put abcdefgh key 1234 says 5678; ");
        Check.feed(x, "put ab");
        EDGES.refuses(x, 10, "book", 5);
        EDGES.gives(x, 5, "fault", 1);
    }

    private static void askOldOne() {
        EDGES.begin(10, "10: the old one stays");
        SwapBook x = World.full();
        SwapBook twin = World.full();
        EDGES.refuses(x, 10, "book", 12);
        EDGES.gives(x, 2, "fault", 0);
        EDGES.gives(x, 12, "fault", 1);
        EDGES.changesOnly("book(12)", x, twin, "tape", "fault");
    }

    private static void askNewOne() {
        EDGES.begin(10, "no ISLAND has anything, the ORDER is empty, there is no LOG.");
        SwapBook x = World.loaded();
        EDGES.gives(x, 7, "has", 0);
        EDGES.gives(x, 18, "has", 1);
        EDGES.gives(x, 0, "orderAt", 0);
        EDGES.gives(x, 6, "sail", 0);
        Check.book(x, World.BOOK);
        EDGES.gives(x, 0, "has", 0);
        EDGES.gives(x, 0, "has", 1);
        EDGES.refuses(x, 8, "orderAt", 0);
        EDGES.gives(x, 0, "number");
        EDGES.refuses(x, 8, "sail", 0);
        x = EDGES.begin(10, "A BOOK that is taken is there in place of that ahead");
        Check.book(x, World.puts(16) + "island w;island x;island y;island z;");
        Check.feed(x, "put q key 9 says 8;");
        EDGES.gives(x, 1, "book", 19);
        EDGES.gives(x, 1, "many", 0);
        EDGES.gives(x, 0, "many", 1);
        EDGES.gives(x, 9, "change", 0, 1);
        EDGES.gives(x, 0, "hangs", 0, 2);
        EDGES.refuses(x, 2, "change", 1, 0);
        EDGES.refuses(x, 2, "holds", 2);
    }

    private static void askTokens() {
        EDGES.taken(10, "between them blanks (10, 32)", 1, "\n put\na \n key 5\nsays\n\n1 ;\n ");
        EDGES.taken(10, "TOKENS, as long as they go", 2, "put a key5says1;take b of a after a;");
        EDGES.faulty(10, "TOKENS, as long as they go", 2, "^puta key 5 says 1;");
        EDGES.faulty(10, "TOKENS, as long as they go", 2, "put a key 5 ^saysb 1;");
        for (char sign : new char[] {0, 9, 11, 12, 13, 31, 33, 58, 60, 96, 123, 127, 128, 138, 160, 255}) {
            EDGES.faulty(10, "between them blanks (10, 32)", 1, "put a^" + sign + "key 5 says 1;");
        }
        for (char sign : new char[] {'@', 'A', 'Z', '[', '`', '{', 225, 250}) {
            EDGES.faulty(10, "WORDS (small letters)", 1, "put ^" + sign + " key 5 says 1;");
        }
        EDGES.taken(10, "WORDS (small letters)", 2, "put a key 1 says 1; put z key 1 says 1;");
        EDGES.taken(10, "NUMBERS (1 to 4 digits)", 2, "put a key 0 says 9; put b key 0000 says 9999;");
        EDGES.faulty(10, "NUMBERS (1 to 4 digits)", 1, "put a key ^/ says 1;");
        EDGES.faulty(10, "NUMBERS (1 to 4 digits)", 1, "put a key ^-1 says 1;");
    }

    private static void askEmpty() {
        EDGES.taken(10, "BOOK: {PART}.", 0, "");
        EDGES.taken(10, "BOOK: {PART}.", 0, " ");
        EDGES.taken(10, "BOOK: {PART}.", 0, "\n");
        EDGES.faulty(10, "BOOK: {PART}.", 2, "^;");
        EDGES.faulty(10, "BOOK: {PART}.", 2, A + "^;");
        EDGES.taken(10, "[AFTER]", 2, A + "put b key 1 says 1 after a;");
        EDGES.faulty(10, "AFTER: after NAME {NAME}.", 2, A + "take b of a after ^;");
        EDGES.taken(10, "AFTER: after NAME {NAME}.", 16, World.puts(15) + "take p of a after b c d e f g h i j k l m n o;");
        EDGES.taken(10, "AFTER: after NAME {NAME}.", 16, World.puts(15) + "put p key 1 says 1 after o n m l k j i h g f e d c b a;");
        EDGES.faulty(10, "AFTER: after NAME {NAME}.", 5,
            World.puts(15) + "put p key 1 says 1 after o n m l k j i h g f e d c b a ^o;");
    }

    private static void askNames() {
        String words = "NAME: a WORD of 1 to 8 letters that is none of";
        EDGES.taken(10, words, 3, "island a; put abcdefgh key 1 says 1; take abcdefgi of abcdefgh; put bbcdefgh key 1 says 1;");
        for (char letter : new char[] {'a', 'b', 'y', 'z'}) {
            EDGES.taken(10, words, 8, putsByLength(letter));
        }
        EDGES.faulty(10, words, 2, "island ^abcdefghi;");
        EDGES.faulty(10, words, 2, "put abcdefgh key 1 says 1; take b of ^abcdefghi;");
        EDGES.faulty(10, "a WORD of 9 letters and more where a NAME must stand", 2, "put ^abcdefghijklmnopqrstuvwxyz key 1 says 1;");
        EDGES.faulty(10, "a WORD of 9 letters and more where a NAME must stand", 2, A + "put b key 1 says 1 after ^abcdefghi;");
        for (String word : World.KEYWORDS) {
            EDGES.faulty(10, words, 2, "island ^" + word + ";");
            EDGES.faulty(10, words, 2, "put ^" + word + " key 1 says 1;");
            EDGES.faulty(10, words, 2, A + "take b of ^" + word + ";");
            EDGES.faulty(10, words, 2, A + "take b of a after ^" + word + ";");
            String longer = word + "z";
            String less = word.substring(1) + "q";
            EDGES.taken(10, words, 2, "put " + longer + " key 1 says 1; put " + less + " key 1 says 1;");
        }
    }

    private static void askTakenNames() {
        String words = "One NAME is of one thing alone.";
        EDGES.faulty(10, words, 3, "island a; island ^a;");
        EDGES.faulty(10, words, 3, "island a; put ^a key 1 says 1;");
        EDGES.faulty(10, words, 3, A + "island ^a;");
        for (String kind : new String[] {"put", "take", "name", "move", "settle"}) {
            EDGES.faulty(10, "3 a new NAME that is taken", 3, "island i;" + FIVE + kind + " ^s");
            EDGES.faulty(10, "3 a new NAME that is taken", 3, "island i;" + FIVE + kind + " ^i");
        }
        EDGES.faulty(10, "3 a new NAME that is taken", 3, "island w;island x;island y;island z;" + World.puts(15) + "put ^z");
        EDGES.faulty(10, "3 a new NAME that is taken", 3, World.puts(15) + "put ^o");
    }

    private static void askLimits() {
        String four = "island w;island x;island y;island z;";
        EDGES.taken(10, "ISLANDS, at most 4.", 0, four);
        EDGES.faulty(10, "6 a fifth island, a 17th CHANGE (at that WORD).", 6, four + "^island v;");
        EDGES.faulty(10, "6 a fifth island, a 17th CHANGE (at that WORD).", 6, four + "^island w;");
        EDGES.faulty(10, "6 a fifth island, a 17th CHANGE (at that WORD).", 6, four + "^island");
        EDGES.taken(10, "CHANGES, at most 16, numbered as they stand", 16, four + World.puts(16));
        EDGES.taken(10, "CHANGES, at most 16, numbered as they stand", 16, World.puts(16) + four);
        for (String kind : new String[] {"put", "take", "name", "move", "settle"}) {
            EDGES.faulty(10, "6 a fifth island, a 17th CHANGE (at that WORD).", 6, World.puts(16) + "^" + kind + " q");
            EDGES.faulty(10, "6 a fifth island, a 17th CHANGE (at that WORD).", 6, World.puts(16) + "^" + kind);
        }
        EDGES.faulty(10, "6 a fifth island, a 17th CHANGE (at that WORD).", 2, World.puts(16) + "^a");
        EDGES.faulty(10, "6 a fifth island, a 17th CHANGE (at that WORD).", 1, World.puts(16) + "^A");
    }

    private static void askNumbers() {
        SwapBook x = EDGES.begin(10, "(0 to 9,999 each)");
        Check.book(x, "put a key 0 says 9999; put b key 9999 says 0; name c of a says 0; name d of a says 9999; move e of a key 0;"
            + "move f of a key 9999;");
        EDGES.gives(x, 0, "change", 0, 1);
        EDGES.gives(x, 9999, "change", 0, 2);
        EDGES.gives(x, 9999, "change", 1, 1);
        EDGES.gives(x, 0, "change", 1, 2);
        EDGES.gives(x, 0, "change", 2, 1);
        EDGES.gives(x, 9999, "change", 3, 1);
        EDGES.gives(x, 0, "change", 4, 1);
        EDGES.gives(x, 9999, "change", 5, 1);
        for (String number : new String[] {"10000", "00000", "99999", "4294967297", "0".repeat(400)}) {
            EDGES.faulty(10, "(a NUMBER of 5 digits and more: at its first)", 1, "put a key ^" + number + " says 1;");
            EDGES.faulty(10, "(a NUMBER of 5 digits and more: at its first)", 1, "put a key 1 says ^" + number + ";");
        }
    }

    private static void askFirst() {
        String words = "FAULTS, the first along the text (of one TOKEN the least kind)";
        EDGES.faulty(10, words, 2, "put a ^says ? ;");
        EDGES.faulty(10, words, 1, "put a key ^? says 12345; ;");
        EDGES.faulty(10, words, 3, A + "take b of ^x ?");
        EDGES.faulty(10, words, 5, FIVE + "take e of ^t after x");
        EDGES.faulty(10, words, 3, FIVE + "take e of ^x after a a");
        EDGES.faulty(10, words, 2, FIVE + "take e of ^take");
        EDGES.faulty(10, words, 6, World.puts(16) + "^put ? ?");
        EDGES.faulty(10, words, 1, "^12345");
        EDGES.faulty(10, words, 1, "put ^12345");
        EDGES.faulty(10, words, 2, "put ^1234");
    }

    private static void askNoToken() {
        String words = "1 no TOKEN begins so";
        EDGES.faulty(10, words, 1, "^?");
        EDGES.faulty(10, words, 1, "  \n^!put a key 1 says 1;");
        EDGES.faulty(10, words, 1, "put a key 1 says 1^,");
        EDGES.faulty(10, words, 1, A + "^.");
        EDGES.faulty(10, words, 1, A + "take b of a after ^_");
        EDGES.faulty(10, words, 1, A + "take b of a after a^_");
    }

    private static void askMisplaced() {
        String words = "2 it can't stand there (the end: the text's length";
        String whole = "island i ; put a key 1 says 2 after b ; take c of a ; name d of a says 3 ; move e of a key 4 ; settle f of d not e ;";
        String told = "put b key 1 says 1 ; ";
        String[] tokens = whole.split(" ");
        StringBuilder ahead = new StringBuilder(told);
        for (String token : tokens) {
            boolean begins = ahead.toString().endsWith("; ");
            if (!begins) {
                EDGES.faulty(10, words, 2, ahead + "^");
                EDGES.faulty(10, words, 2, ahead.toString().stripTrailing() + "^");
            }
            EDGES.faulty(10, words, 2, ahead + "^" + (token.equals("key") ? "says" : "key"));
            boolean number = token.matches("[0-9]");
            EDGES.faulty(10, words, 2, ahead + "^" + (number ? "a" : "7"));
            if (token.equals("e") && ahead.toString().endsWith("not ")) {
                break;
            }
            ahead.append(token).append(" ");
        }
        EDGES.faulty(10, words, 2, A + "settle f of ^abcdefghi");
        EDGES.faulty(10, words, 2, A + "put c key 1 says 1 ^b;");
        EDGES.faulty(10, words, 2, A + "put c key 1 says 1 after a ^1;");
        EDGES.faulty(10, words, 2, A + "put c key 1 says 1 after a ^after a;");
        EDGES.faulty(10, words, 2, A + "put c key 1 says 1 after a^");
        EDGES.faulty(10, words, 2, "island i ^after a;");
    }

    private static void askAbsent() {
        String words = "a NAME that is no CHANGE told ahead";
        for (String kind : new String[] {"take", "name", "move", "settle"}) {
            EDGES.faulty(10, words, 3, "island i;" + A + kind + " b of ^x");
            EDGES.faulty(10, words, 3, "island i;" + A + kind + " b of ^b");
            EDGES.faulty(10, words, 3, "island i;" + A + kind + " b of ^i");
        }
        EDGES.faulty(10, words, 3, "take b of ^a; " + A);
        EDGES.faulty(10, words, 3, "put b key 1 says 1 after ^a; " + A);
        EDGES.faulty(10, words, 3, "put b key 1 says 1 after ^b;");
        EDGES.faulty(10, words, 3, "island i;" + A + "put b key 1 says 1 after a ^i;");
        EDGES.faulty(10, words, 3, FIVE + "settle e of b not ^x;");
        EDGES.faulty(10, words, 3, FIVE + "settle e of b not ^e;");
        EDGES.faulty(10, words, 3, "island i;" + FIVE + "settle e of b not ^i;");
    }

    private static void askOf() {
        String words = "TAKE, NAME, MOVE are OF a CHANGE told ahead that is a PUT, NAME or MOVE";
        String[] kinds = {"take e of %s;", "name e of %s says 1;", "move e of %s key 1;"};
        for (String kind : kinds) {
            for (String of : new String[] {"a", "b", "c"}) {
                EDGES.taken(10, words, 6, FIVE + kind.formatted(of));
            }
            for (String of : new String[] {"t", "s"}) {
                EDGES.faulty(10, "5 OF a TAKE or a SETTLE (at that NAME", 5, FIVE + kind.formatted("^" + of));
            }
        }
        SwapBook x = EDGES.begin(10, "of the same THING as that");
        Check.book(x, A + "put b key 1 says 1; name c of b says 1; move d of c key 1; take e of d;");
        for (int change = 1; change < 5; change++) {
            EDGES.gives(x, 1, "change", change, 3);
        }
    }

    private static void askSettle() {
        String words = "for SETTLE: of a PUT, a SETTLE, at either NAME";
        EDGES.faulty(10, words, 5, FIVE + "settle e of ^a not b;");
        EDGES.faulty(10, words, 5, FIVE + "settle e of ^s not b;");
        EDGES.faulty(10, words, 5, FIVE + "settle e of ^a not a;");
        EDGES.faulty(10, words, 5, FIVE + "settle e of b not ^a;");
        EDGES.faulty(10, words, 5, FIVE + "settle e of b not ^s;");
        words = "a SETTLE of two that would not QUARREL, or are one (at the second NAME)";
        EDGES.faulty(10, words, 5, FIVE + "settle e of b not ^b;");
        EDGES.faulty(10, words, 5, FIVE + "settle e of t not ^t;");
        EDGES.faulty(10, words, 5, FIVE + "settle e of b not ^c;");
        EDGES.faulty(10, words, 5, FIVE + "settle e of c not ^b;");
        EDGES.faulty(10, words, 5, FIVE + "take u of a;settle e of t not ^u;");
        EDGES.faulty(10, words, 5, FIVE + "name n of a says 1 after b;settle e of n not ^b;");
        EDGES.faulty(10, words, 5, FIVE + "move m of a key 1;settle e of b not ^m;");
        EDGES.faulty(10, words, 5, FIVE + "put p key 1 says 1;name n of p says 1;settle e of b not ^n;");
        EDGES.faulty(10, words, 5, FIVE + "put p key 1 says 1;take n of p;settle e of n not ^b;");
        words = "SETTLE: of two CHANGES of one THING, none of which hangs on the other (and that would QUARREL)";
        EDGES.taken(10, words, 6, FIVE + "settle e of t not b;");
        EDGES.taken(10, words, 6, FIVE + "settle e of b not t;");
        EDGES.taken(10, words, 6, FIVE + "settle e of t not c;");
        EDGES.taken(10, words, 7, FIVE + "name n of a says 1;settle e of n not b;");
        EDGES.taken(10, words, 7, FIVE + "move m of a key 1;settle e of c not m;");
    }

    private static void askAfter() {
        String words = "a CHANGE again behind after (at it)";
        EDGES.faulty(10, words, 5, FIVE + "put e key 1 says 1 after a ^a;");
        EDGES.faulty(10, words, 5, FIVE + "put e key 1 says 1 after a b t s c ^a;");
        EDGES.faulty(10, words, 5, FIVE + "take e of a after a ^a;");
        EDGES.taken(10, words, 6, FIVE + "put e key 1 says 1 after s t c b a;");
    }

    private static void askFault() {
        SwapBook x = EDGES.begin(12, "NONE for others, and ahead of any.");
        EDGES.gives(x, -1, "fault", 0);
        EDGES.gives(x, -1, "fault", 1);
        x.book(1);
        EDGES.gives(x, -1, "fault", 0);
        EDGES.gives(x, -1, "fault", 1);
        x.book(0);
        for (int what : new int[] {-1, 2, Integer.MAX_VALUE, Integer.MIN_VALUE}) {
            EDGES.gives(x, -1, "fault", what);
        }
        x = EDGES.begin(12, "the FAULT (0 without one), 1: its place (NONE without)");
        x.log(0);
        EDGES.gives(x, 0, "fault", 0);
        EDGES.gives(x, -1, "fault", 1);
        Check.book(x, "?");
        EDGES.gives(x, 1, "fault", 0);
        EDGES.gives(x, 0, "fault", 1);
        EDGES.gives(x, -1, "fault", 2);
        x = EDGES.begin(12, "Of the latest of these with STATUS 0 or 10");
        Check.book(x, A + "take");
        EDGES.refuses(x, 5, "book", -1);
        EDGES.refuses(x, 5, "log", 301);
        EDGES.gives(x, 2, "fault", 0);
        EDGES.gives(x, 23, "fault", 1);
        Check.log(x, " end;");
        EDGES.gives(x, 2, "fault", 0);
        EDGES.gives(x, 1, "fault", 1);
        Check.book(x, A);
        EDGES.gives(x, 0, "fault", 0);
        EDGES.gives(x, -1, "fault", 1);
    }
}
