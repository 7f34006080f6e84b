public final class SwapBook {
    public static final int NONE = -1;

    private static final int NO_TRAY = 1;
    private static final int NOT_KNOWN = 2;
    private static final int MISSING = 3;
    private static final int NO_PLACE = 4;
    private static final int BAD_NUMBER = 5;
    private static final int BELOW_ZERO = 6;
    private static final int TOO_MANY = 7;
    private static final int NOT_THERE = 8;
    private static final int CANNOT_BE = 9;
    private static final int FAULTY = 10;
    private static final int UNLIKE = 11;

    private static final int TRAYS = 4;
    private static final int TRAY_LENGTH = 60;
    private static final int TAPE_LENGTH = 900;
    private static final int LOG_LENGTH = 300;
    private static final int ISLANDS = 4;
    private static final int CHANGES = 16;
    private static final int MARKS = 3;
    private static final int LAST_SEED = 9999;
    private static final int MOST_SEEDS = 30;
    private static final int SEAL_DIVISOR = 251;
    // The 1, how many CHANGES, and what is left: the numbers that even an empty SET takes.
    private static final int SEAL_FRAME = 3;

    private final Tray[] trays = new Tray[TRAYS];
    private final Tokens tokens = new Tokens();
    private final State now = new State();
    private final State[] marks = new State[MARKS];
    private final Listing listing = new Listing();
    private final Listing otherListing = new Listing();
    private final OrderCounter counter = new OrderCounter();
    private final Voyage voyage = new Voyage();
    private final int[] lastVoyage = new int[5];
    private boolean hasSailed = false;
    private int markCount = 0;
    private int status = 0;
    private long top = 0;
    private long bottom = 1;

    public SwapBook() {
        for (int i = 0; i < TRAYS; i++) {
            trays[i] = new Tray();
        }
        for (int i = 0; i < MARKS; i++) {
            marks[i] = new State();
        }
    }

    public int status() {
        return status;
    }

    public long top() {
        return top;
    }

    public long bottom() {
        return bottom;
    }

    private int tell(int answer) {
        status = 0;
        return answer;
    }

    private long tellLong(long answer) {
        status = 0;
        return answer;
    }

    private int refuse(int why) {
        status = why;
        return NONE;
    }

    private boolean grant() {
        status = 0;
        return true;
    }

    private boolean deny(int why) {
        status = why;
        return false;
    }

    // ---- TRAYS

    private static boolean isTray(int tray) {
        return tray >= 0 && tray < TRAYS;
    }

    private int faultOfPlace(int tray, int place) {
        if (!isTray(tray)) {
            return NO_TRAY;
        }
        if (trays[tray].isMissing()) {
            return MISSING;
        }
        return trays[tray].spans(place, 1) ? 0 : NO_PLACE;
    }

    public boolean tray(int tray, int sort, int many) {
        if (!isTray(tray) || !Tray.isSort(sort)) {
            return deny(NO_TRAY);
        }
        if (many > TRAY_LENGTH) {
            return deny(BAD_NUMBER);
        }
        if (many < 0) {
            return deny(BELOW_ZERO);
        }
        trays[tray].layOut(sort, many);
        return grant();
    }

    public boolean write(int tray, int place, long v) {
        int fault = faultOfPlace(tray, place);
        if (fault != 0) {
            return deny(fault);
        }
        trays[tray].set(place, v);
        return grant();
    }

    public long read(int tray, int place) {
        int fault = faultOfPlace(tray, place);
        if (fault != 0) {
            return refuse(fault);
        }
        return tellLong(trays[tray].get(place));
    }

    public boolean pour(int tray, int i, int to, int j, int many) {
        if (!isTray(tray) || !isTray(to)) {
            return deny(NO_TRAY);
        }
        Tray source = trays[tray];
        Tray target = trays[to];
        if (source.isMissing() || target.isMissing()) {
            return deny(MISSING);
        }
        if (source.sort != target.sort) {
            return deny(UNLIKE);
        }
        if (many < 0) {
            return deny(BELOW_ZERO);
        }
        if (!source.spans(i, many) || !target.spans(j, many)) {
            return deny(NO_PLACE);
        }
        System.arraycopy(source.numbers, i, target.numbers, j, many);
        return grant();
    }

    // ---- texts

    public int feed(int a, int b, int c, int d, int e) {
        if (!tokens.hasRoom(20)) {
            return NONE;
        }
        tokens.addBytes(a);
        tokens.addBytes(b);
        tokens.addBytes(c);
        tokens.addBytes(d);
        tokens.addBytes(e);
        return tokens.tapeLength;
    }

    public int book(int n) {
        if (n < 0 || n > tokens.tapeLength) {
            return refuse(BAD_NUMBER);
        }
        Book told = new BookReader(tokens).readBook(n);
        if (tokens.fault != 0) {
            return refuse(FAULTY);
        }
        now.begin(told);
        return tell(told.changes);
    }

    public int log(int n) {
        if (n < 0 || n > tokens.tapeLength || n > LOG_LENGTH) {
            return refuse(BAD_NUMBER);
        }
        Log told = new LogReader(tokens, now.book).readLog(n);
        if (tokens.fault != 0) {
            return refuse(FAULTY);
        }
        now.log = told;
        return tell(told.steps);
    }

    public int fault(int what) {
        if (what == 0) {
            return tokens.fault;
        }
        return what == 1 ? tokens.faultPlace : NONE;
    }

    public int many(int what) {
        Book book = now.book;
        switch (what) {
            case 0:
                return tell(book.changes);
            case 1:
                return tell(book.islands);
            case 2:
                return tell(Integer.bitCount(book.allOfKind(Book.PUT)));
            case 3:
                return tell(book.countFoes());
            default:
                return refuse(BAD_NUMBER);
        }
    }

    public int change(int change, int what) {
        Book book = now.book;
        if (!book.isChange(change)) {
            return refuse(NOT_KNOWN);
        }
        switch (what) {
            case 0:
                return tell(book.kinds[change]);
            case 1:
                return tell(book.numbers[change]);
            case 2:
                return book.isPut(change) ? tell(book.sayings[change]) : refuse(NOT_THERE);
            case 3:
                return tell(book.things[change]);
            case 4:
                return tell(book.levels[change]);
            default:
                return refuse(BAD_NUMBER);
        }
    }

    // ---- what hangs on what

    public int hangs(int change, int what) {
        Book book = now.book;
        if (!book.isChange(change)) {
            return refuse(NOT_KNOWN);
        }
        switch (what) {
            case 0:
                return tell(book.direct[change]);
            case 1:
                return tell(book.below[change]);
            case 2:
                return tell(book.above[change]);
            default:
                return refuse(BAD_NUMBER);
        }
    }

    public int holds(int set) {
        if (!now.book.isSet(set)) {
            return refuse(NOT_KNOWN);
        }
        return tell(now.book.isClosed(set) ? 1 : 0);
    }

    public int lacks(int set) {
        if (!now.book.isSet(set)) {
            return refuse(NOT_KNOWN);
        }
        return tell(now.book.missingFrom(set));
    }

    public int out(int set, int change) {
        if (!now.book.isSet(set) || !now.book.isChange(change)) {
            return refuse(NOT_KNOWN);
        }
        return tell(now.book.without(set, change));
    }

    public int pick(int set, int change) {
        if (!now.book.isSet(set) || !now.book.isChange(change)) {
            return refuse(NOT_KNOWN);
        }
        return tell(now.book.including(set, change));
    }

    public int heaviest() {
        if (now.book.changes == 0) {
            return refuse(NOT_THERE);
        }
        return tell(now.book.heaviestChange());
    }

    public int alone() {
        return tell(now.book.lonelyPuts());
    }

    // ---- LISTS

    private int faultOfSet(int set) {
        if (!now.book.isSet(set)) {
            return NOT_KNOWN;
        }
        return now.book.isClosed(set) ? 0 : CANNOT_BE;
    }

    public int size(int set) {
        int fault = faultOfSet(set);
        if (fault != 0) {
            return refuse(fault);
        }
        listing.fill(now.book, set);
        return tell(listing.count);
    }

    public int thing(int set, int place) {
        int fault = faultOfSet(set);
        if (fault != 0) {
            return refuse(fault);
        }
        listing.fill(now.book, set);
        if (!listing.isPlace(place)) {
            return refuse(NOT_THERE);
        }
        return tell(listing.puts[place]);
    }

    // Fills the listing for the three calls that ask for a THING by its PUT; their answer's
    // place is told, or NONE with the STATUS that the call ends with.
    private int findThing(int set, int put) {
        if (!now.book.isSet(set) || !now.book.isChange(put)) {
            return refuse(NOT_KNOWN);
        }
        if (!now.book.isClosed(set)) {
            return refuse(CANNOT_BE);
        }
        listing.fill(now.book, set);
        int found = listing.placeOf(put);
        return found == NONE ? refuse(NOT_THERE) : tell(found);
    }

    public int says(int set, int put) {
        int found = findThing(set, put);
        return listing.isPlace(found) ? listing.sayings[found] : NONE;
    }

    public int key(int set, int put) {
        int found = findThing(set, put);
        return listing.isPlace(found) ? listing.keys[found] : NONE;
    }

    public int place(int set, int put) {
        return findThing(set, put);
    }

    private int faultOfSets(int a, int b) {
        if (!now.book.isSet(a) || !now.book.isSet(b)) {
            return NOT_KNOWN;
        }
        return now.book.isClosed(a) && now.book.isClosed(b) ? 0 : CANNOT_BE;
    }

    public int like(int a, int b) {
        int fault = faultOfSets(a, b);
        if (fault != 0) {
            return refuse(fault);
        }
        listing.fill(now.book, a);
        otherListing.fill(now.book, b);
        boolean alike = listing.isLike(otherListing) && now.book.quarrelAlike(a, b);
        return tell(alike ? 1 : 0);
    }

    public int apart(int a, int b) {
        int fault = faultOfSets(a, b);
        if (fault != 0) {
            return refuse(fault);
        }
        listing.fill(now.book, a);
        otherListing.fill(now.book, b);
        int found = listing.firstDifference(otherListing);
        return found == NONE ? refuse(NOT_THERE) : tell(found);
    }

    // ---- QUARRELS

    public int quarrels(int set) {
        if (!now.book.isSet(set)) {
            return refuse(NOT_KNOWN);
        }
        return tell(now.book.countQuarrels(set));
    }

    public int with(int set, int change) {
        if (!now.book.isSet(set) || !now.book.isChange(change)) {
            return refuse(NOT_KNOWN);
        }
        if (!Book.isIn(set, change)) {
            return refuse(NOT_THERE);
        }
        return tell(now.book.quarrelersOf(set, change));
    }

    public int leastOut(int set) {
        int fault = faultOfSet(set);
        if (fault != 0) {
            return refuse(fault);
        }
        return tell(new QuietSearch(now.book, set).fewestOut());
    }

    public int mostQuiet() {
        int out = new QuietSearch(now.book, now.book.wholeSet()).fewestOut();
        return tell(now.book.changes - Integer.bitCount(out));
    }

    // ---- ORDERS

    public long orders(int set) {
        int fault = faultOfSet(set);
        if (fault != 0) {
            return refuse(fault);
        }
        return tellLong(counter.countOrders(now.book, set));
    }

    public boolean ahead(int set, int a, int b) {
        Book book = now.book;
        if (!book.isSet(set) || !book.isChange(a) || !book.isChange(b)) {
            return deny(NOT_KNOWN);
        }
        if (a == b || !Book.isIn(set, a) || !Book.isIn(set, b)) {
            return deny(NOT_KNOWN);
        }
        if (!book.isClosed(set)) {
            return deny(CANNOT_BE);
        }
        tellFraction(counter.countOrdersWith(book, set, a, b), counter.countOrders(book, set));
        return grant();
    }

    private void tellFraction(long part, long whole) {
        long divisor = commonDivisor(part, whole);
        if (divisor > 0) {
            top = part / divisor;
            bottom = whole / divisor;
        }
    }

    private static long commonDivisor(long a, long b) {
        long larger = a;
        long smaller = b;
        // Each two rounds halve the larger one: a long has no more than some 90 of them.
        for (int round = 0; round < 200 && smaller != 0; round++) {
            long left = larger % smaller;
            larger = smaller;
            smaller = left;
        }
        return larger;
    }

    public int ordered(int set, long number) {
        int fault = faultOfSet(set);
        if (fault != 0) {
            return refuse(fault);
        }
        if (number < 0 || number >= counter.countOrders(now.book, set)) {
            return refuse(BAD_NUMBER);
        }
        now.orderLength = counter.writeOrder(number, now.order);
        return tell(now.orderLength);
    }

    public boolean order(int tray, int many) {
        if (!isTray(tray)) {
            return deny(NO_TRAY);
        }
        if (trays[tray].isMissing()) {
            return deny(MISSING);
        }
        if (many < 0 || many > CHANGES) {
            return deny(BAD_NUMBER);
        }
        if (!trays[tray].spans(0, many)) {
            return deny(NO_PLACE);
        }
        if (!areChangesOnce(trays[tray], many)) {
            return deny(BAD_NUMBER);
        }
        if (!holdsInRow(trays[tray], many)) {
            return deny(CANNOT_BE);
        }
        for (int k = 0; k < many; k++) {
            now.order[k] = (int) trays[tray].get(k);
        }
        now.orderLength = many;
        return grant();
    }

    private boolean areChangesOnce(Tray row, int many) {
        int seen = 0;
        for (int k = 0; k < many; k++) {
            long v = row.get(k);
            if (v < 0 || v >= now.book.changes || Book.isIn(seen, (int) v)) {
                return false;
            }
            seen |= 1 << (int) v;
        }
        return true;
    }

    private boolean holdsInRow(Tray row, int many) {
        int seen = 0;
        for (int k = 0; k < many; k++) {
            int change = (int) row.get(k);
            if (!now.book.isChange(change) || (now.book.below[change] & ~seen) != 0) {
                return false;
            }
            seen |= 1 << change;
        }
        return true;
    }

    public long number() {
        return tellLong(counter.numberOf(now.book, now.order, now.orderLength));
    }

    public int orderAt(int k) {
        return now.isInOrder(k) ? tell(now.order[k]) : refuse(NOT_THERE);
    }

    public int acts(int k) {
        if (!now.isInOrder(k)) {
            return refuse(NOT_THERE);
        }
        int change = now.order[k];
        int kind = now.book.kinds[change];
        if (kind == Book.SETTLE) {
            return tell(NONE);
        }
        listing.fill(now.book, now.firstOfOrder(kind == Book.PUT ? k + 1 : k));
        return tell(listing.placeOf(now.book.things[change]));
    }

    public boolean swap(int k) {
        if (!now.isInOrder(k) || !now.isInOrder(k + 1)) {
            return deny(NOT_THERE);
        }
        if (!now.maySwap(k)) {
            return deny(CANNOT_BE);
        }
        now.exchange(k);
        return grant();
    }

    public int forward(int change) {
        if (!now.book.isChange(change)) {
            return refuse(NOT_KNOWN);
        }
        int k = now.placeInOrder(change);
        if (k == NONE) {
            return refuse(NOT_THERE);
        }
        while (k > 0 && now.maySwap(k - 1)) {
            now.exchange(k - 1);
            k--;
        }
        return tell(k);
    }

    public int swaps() {
        return tell(now.countTurned());
    }

    // ---- ISLANDS

    public int has(int island) {
        return now.book.isIsland(island) ? tell(now.has[island]) : refuse(NOT_KNOWN);
    }

    public boolean give(int island, int set) {
        if (!now.book.isIsland(island) || !now.book.isSet(set)) {
            return deny(NOT_KNOWN);
        }
        if (!now.book.isClosed(set)) {
            return deny(CANNOT_BE);
        }
        now.has[island] = set;
        return grant();
    }

    public int sail(int seed) {
        if (seed < 0 || seed > LAST_SEED) {
            return refuse(BAD_NUMBER);
        }
        Log log = now.log;
        if (log == null) {
            return refuse(NOT_THERE);
        }
        voyage.run(now.book, log, now.has, seed);
        System.arraycopy(voyage.has, 0, now.has, 0, ISLANDS);
        lastVoyage[0] = voyage.day;
        lastVoyage[1] = voyage.missed;
        lastVoyage[2] = voyage.came;
        lastVoyage[3] = voyage.lost;
        lastVoyage[4] = voyage.cargoes;
        hasSailed = true;
        return tell(voyage.steps);
    }

    public int sailed(int what) {
        if (what < 0 || what >= lastVoyage.length) {
            return refuse(BAD_NUMBER);
        }
        return hasSailed ? tell(lastVoyage[what]) : refuse(NOT_THERE);
    }

    public int agreed(int seed, int many) {
        if (seed < 0 || many < 1 || many > MOST_SEEDS || seed > LAST_SEED + 1 - many) {
            return refuse(BAD_NUMBER);
        }
        Log log = now.log;
        if (log == null) {
            return refuse(NOT_THERE);
        }
        int count = 0;
        for (int i = 0; i < many; i++) {
            voyage.run(now.book, log, now.has, seed + i);
            if (voyage.allAlike()) {
                count++;
            }
        }
        return tell(count);
    }

    // ---- SEALED

    public int seal(int tray, int set) {
        if (!isTray(tray)) {
            return refuse(NO_TRAY);
        }
        if (!now.book.isSet(set)) {
            return refuse(NOT_KNOWN);
        }
        if (trays[tray].isMissing()) {
            return refuse(MISSING);
        }
        int count = Integer.bitCount(set);
        if (!trays[tray].spans(0, count + SEAL_FRAME)) {
            return refuse(NO_PLACE);
        }
        if (trays[tray].sort == Tray.BITS_8) {
            return refuse(BAD_NUMBER);
        }
        if (!now.book.isClosed(set)) {
            return refuse(CANNOT_BE);
        }
        writeSeal(trays[tray], set, count);
        return tell(count + SEAL_FRAME);
    }

    private void writeSeal(Tray row, int set, int count) {
        row.set(0, 1);
        row.set(1, count);
        int place = 2;
        int sum = 1 + count;
        for (int c = 0; c < now.book.changes; c++) {
            if (Book.isIn(set, c)) {
                row.set(place, sealOf(c));
                sum += sealOf(c);
                place++;
            }
        }
        row.set(place, sum % SEAL_DIVISOR);
    }

    private int sealOf(int change) {
        return now.book.kinds[change] + 5 * change;
    }

    public int open(int tray) {
        if (!isTray(tray)) {
            return refuse(NO_TRAY);
        }
        Tray row = trays[tray];
        if (row.isMissing()) {
            return refuse(MISSING);
        }
        if (!row.spans(0, SEAL_FRAME)) {
            return refuse(NO_PLACE);
        }
        int count = sealedCount(row);
        if (count == NONE) {
            return refuse(CANNOT_BE);
        }
        if (!row.spans(0, count + SEAL_FRAME)) {
            return refuse(NO_PLACE);
        }
        int set = readSeal(row, count);
        return set == NONE ? refuse(CANNOT_BE) : tell(set);
    }

    // NONE if the row does not begin as what is SEALED does: then there is nothing in it that could
    // take more numbers than the TRAY has.
    private static int sealedCount(Tray row) {
        long count = row.get(1);
        return row.get(0) == 1 && count >= 0 && count <= CHANGES ? (int) count : NONE;
    }

    private int readSeal(Tray row, int count) {
        int set = 0;
        int place = 2;
        int sum = 1 + count;
        for (int c = 0; c < now.book.changes && place < count + 2; c++) {
            if (row.get(place) == sealOf(c)) {
                set |= 1 << c;
                sum += sealOf(c);
                place++;
            }
        }
        boolean whole = place == count + 2 && row.get(place) == sum % SEAL_DIVISOR;
        return whole && now.book.isClosed(set) ? set : NONE;
    }

    // ---- MARKS

    public int mark() {
        if (markCount >= MARKS) {
            return refuse(TOO_MANY);
        }
        marks[markCount].copyFrom(now);
        markCount++;
        return tell(markCount);
    }

    public int back() {
        if (markCount <= 0) {
            return refuse(NOT_THERE);
        }
        markCount--;
        now.copyFrom(marks[markCount]);
        return tell(markCount);
    }

    private static final class Tray {
        static final int BITS_8 = 0;
        static final int BITS_16 = 1;
        static final int BITS_32 = 2;
        static final int BITS_64 = 3;

        final long[] numbers = new long[TRAY_LENGTH];
        int sort = NONE;
        int length = 0;

        static boolean isSort(int sort) {
            return sort >= BITS_8 && sort <= BITS_64;
        }

        boolean isMissing() {
            return sort == NONE;
        }

        void layOut(int newSort, int many) {
            sort = newSort;
            length = many;
            for (int i = 0; i < TRAY_LENGTH; i++) {
                numbers[i] = 0;
            }
        }

        boolean spans(int from, int many) {
            return from >= 0 && many >= 0 && from <= length && many <= length - from;
        }

        long get(int place) {
            return place >= 0 && place < length ? numbers[place] : NONE;
        }

        void set(int place, long v) {
            if (place >= 0 && place < length) {
                numbers[place] = cut(v);
            }
        }

        private long cut(long v) {
            switch (sort) {
                case BITS_8:
                    return (byte) v;
                case BITS_16:
                    return (short) v;
                case BITS_32:
                    return (int) v;
                default:
                    return v;
            }
        }
    }

    // What a MARK keeps. A BOOK and a LOG never change once they are read, so they are shared.
    private static final class State {
        Book book = new Book();
        Log log = null;
        final int[] has = new int[ISLANDS];
        final int[] order = new int[CHANGES];
        int orderLength = 0;

        void begin(Book newBook) {
            book = newBook;
            log = null;
            orderLength = 0;
            for (int i = 0; i < ISLANDS; i++) {
                has[i] = 0;
            }
        }

        void copyFrom(State other) {
            book = other.book;
            log = other.log;
            orderLength = other.orderLength;
            System.arraycopy(other.has, 0, has, 0, ISLANDS);
            System.arraycopy(other.order, 0, order, 0, CHANGES);
        }

        boolean isInOrder(int k) {
            return k >= 0 && k < orderLength;
        }

        int firstOfOrder(int many) {
            int set = 0;
            for (int k = 0; k < many && k < orderLength; k++) {
                set |= 1 << order[k];
            }
            return set;
        }

        int placeInOrder(int change) {
            for (int k = 0; k < orderLength; k++) {
                if (order[k] == change) {
                    return k;
                }
            }
            return NONE;
        }

        boolean maySwap(int k) {
            return isInOrder(k) && isInOrder(k + 1) && !Book.isIn(book.direct[order[k + 1]], order[k]);
        }

        void exchange(int k) {
            if (isInOrder(k) && isInOrder(k + 1)) {
                int first = order[k];
                order[k] = order[k + 1];
                order[k + 1] = first;
            }
        }

        // CHANGES hang on such with lesser numbers alone, so the first ORDER goes up by numbers;
        // each swap can mend one turned couple, and some turned neighbours may always be swapped.
        int countTurned() {
            int count = 0;
            for (int k = 0; k < orderLength; k++) {
                for (int i = 0; i < k; i++) {
                    if (order[i] > order[k]) {
                        count++;
                    }
                }
            }
            return count;
        }
    }

    private static final class Book {
        static final int PUT = 0;
        static final int TAKE = 1;
        static final int RENAME = 2;
        static final int MOVE = 3;
        static final int SETTLE = 4;

        int islands = 0;
        int changes = 0;
        final long[] islandNames = new long[ISLANDS];
        final long[] changeNames = new long[CHANGES];
        final int[] kinds = new int[CHANGES];
        final int[] numbers = new int[CHANGES];
        final int[] sayings = new int[CHANGES];
        final int[] things = new int[CHANGES];
        final int[] levels = new int[CHANGES];
        final int[] direct = new int[CHANGES];
        final int[] below = new int[CHANGES];
        final int[] above = new int[CHANGES];
        final int[] foes = new int[CHANGES];
        final int[] winners = new int[CHANGES];
        final int[] losers = new int[CHANGES];
        int settles = 0;

        static boolean isIn(int set, int change) {
            return (set >> change & 1) != 0;
        }

        boolean isChange(int change) {
            return change >= 0 && change < changes;
        }

        boolean isIsland(int island) {
            return island >= 0 && island < islands;
        }

        int wholeSet() {
            return (1 << changes) - 1;
        }

        boolean isSet(int set) {
            return set >= 0 && set <= wholeSet();
        }

        boolean isPut(int change) {
            return isChange(change) && kinds[change] == PUT;
        }

        int findIsland(long name) {
            for (int i = 0; i < islands; i++) {
                if (islandNames[i] == name) {
                    return i;
                }
            }
            return NONE;
        }

        int findChange(long name) {
            for (int c = 0; c < changes; c++) {
                if (changeNames[c] == name) {
                    return c;
                }
            }
            return NONE;
        }

        void addIsland(long name) {
            if (islands < ISLANDS) {
                islandNames[islands] = name;
                islands++;
            }
        }

        // The CHANGE behind the last one is written by the reader; here it begins to count.
        void addChange() {
            int c = changes;
            if (c >= CHANGES) {
                return;
            }
            below[c] = direct[c];
            levels[c] = 0;
            for (int d = 0; d < c; d++) {
                if (isIn(direct[c], d)) {
                    below[c] |= below[d];
                    levels[c] = Math.max(levels[c], levels[d] + 1);
                }
            }
            for (int d = 0; d < c; d++) {
                if (isIn(below[c], d)) {
                    above[d] |= 1 << c;
                } else if (things[d] == things[c] && doClash(kinds[d], kinds[c])) {
                    foes[d] |= 1 << c;
                    foes[c] |= 1 << d;
                }
            }
            if (kinds[c] == SETTLE) {
                settles |= 1 << c;
            }
            changes = c + 1;
        }

        private static boolean doClash(int kind, int other) {
            if (kind == RENAME || kind == MOVE) {
                return other == kind || other == TAKE;
            }
            return kind == TAKE && (other == RENAME || other == MOVE);
        }

        int allOfKind(int kind) {
            int set = 0;
            for (int c = 0; c < changes; c++) {
                if (kinds[c] == kind) {
                    set |= 1 << c;
                }
            }
            return set;
        }

        int countFoes() {
            int count = 0;
            for (int c = 0; c < changes; c++) {
                count += Integer.bitCount(foes[c]);
            }
            return count / 2;
        }

        int missingFrom(int set) {
            int needed = 0;
            for (int c = 0; c < changes; c++) {
                if (isIn(set, c)) {
                    needed |= below[c];
                }
            }
            return needed & ~set;
        }

        boolean isClosed(int set) {
            return missingFrom(set) == 0;
        }

        int without(int set, int change) {
            return isChange(change) ? set & ~(above[change] | 1 << change) : set;
        }

        int including(int set, int change) {
            return isChange(change) ? set | below[change] | 1 << change : set;
        }

        int heaviestChange() {
            int best = 0;
            for (int c = 1; c < changes; c++) {
                if (Integer.bitCount(above[c]) > Integer.bitCount(above[best])) {
                    best = c;
                }
            }
            return best;
        }

        int lonelyPuts() {
            int set = 0;
            for (int c = 0; c < changes; c++) {
                if (kinds[c] == PUT && above[c] == 0) {
                    set |= 1 << c;
                }
            }
            return set;
        }

        int quarrelersOf(int set, int change) {
            if (!isChange(change) || !isIn(set, change)) {
                return 0;
            }
            int quarrelers = foes[change] & set;
            for (int s = 0; s < changes && quarrelers != 0; s++) {
                if (isIn(settles & set, s)) {
                    if (winners[s] == change) {
                        quarrelers &= ~(1 << losers[s]);
                    } else if (losers[s] == change) {
                        quarrelers &= ~(1 << winners[s]);
                    }
                }
            }
            return quarrelers;
        }

        int countQuarrels(int set) {
            int count = 0;
            for (int c = 0; c < changes; c++) {
                count += Integer.bitCount(quarrelersOf(set, c));
            }
            return count / 2;
        }

        // NONE if the SET is QUIET.
        int mostQuarrelling(int set) {
            int best = NONE;
            int most = 0;
            for (int c = 0; c < changes; c++) {
                int count = Integer.bitCount(quarrelersOf(set, c));
                if (count > most) {
                    most = count;
                    best = c;
                }
            }
            return best;
        }

        boolean quarrelAlike(int a, int b) {
            for (int c = 0; c < changes; c++) {
                if (quarrelersOf(a, c) != quarrelersOf(b, c)) {
                    return false;
                }
            }
            return true;
        }

        int leftOutIn(int set) {
            int left = 0;
            for (int s = 0; s < changes; s++) {
                if (isIn(settles & set, s)) {
                    left |= 1 << losers[s];
                }
            }
            return left;
        }

        // The CHANGES of a kind of a THING, among some.
        private int ofThing(int among, int put, int kind) {
            int set = 0;
            for (int c = 0; c < changes; c++) {
                if (isIn(among, c) && kinds[c] == kind && things[c] == put) {
                    set |= 1 << c;
                }
            }
            return set;
        }

        boolean isGone(int set, int leftOut, int put) {
            int takes = ofThing(set & ~leftOut, put, TAKE);
            for (int c = 0; c < changes; c++) {
                if (isIn(takes, c) && quarrelersOf(set, c) == 0) {
                    return true;
                }
            }
            return false;
        }

        // What a THING SAYS (kind RENAME), or its KEY (kind MOVE).
        int toldNumber(int set, int leftOut, int put, int kind) {
            int telling = ofThing(set & ~leftOut, put, kind);
            int agreed = telling | 1 << put;
            int heads = 0;
            int teller = put;
            for (int c = 0; c < changes; c++) {
                if (isIn(telling, c) && (above[c] & telling) == 0) {
                    heads++;
                    teller = c;
                    agreed &= below[c];
                }
            }
            for (int c = 0; c < changes && heads > 1; c++) {
                if (isIn(agreed, c)) {
                    teller = c;
                }
            }
            return kind == RENAME && isPut(teller) ? sayings[teller] : numbers[teller];
        }
    }

    private static final class Listing {
        int count = 0;
        final int[] puts = new int[CHANGES];
        final int[] sayings = new int[CHANGES];
        final int[] keys = new int[CHANGES];

        void fill(Book book, int set) {
            count = 0;
            int leftOut = book.leftOutIn(set);
            for (int c = 0; c < book.changes; c++) {
                if (book.isPut(c) && Book.isIn(set, c) && !book.isGone(set, leftOut, c)) {
                    int saying = book.toldNumber(set, leftOut, c, Book.RENAME);
                    insert(c, saying, book.toldNumber(set, leftOut, c, Book.MOVE));
                }
            }
        }

        private void insert(int put, int saying, int key) {
            if (count >= CHANGES) {
                return;
            }
            int k = count;
            while (k > 0 && keys[k - 1] > key) {
                puts[k] = puts[k - 1];
                sayings[k] = sayings[k - 1];
                keys[k] = keys[k - 1];
                k--;
            }
            puts[k] = put;
            sayings[k] = saying;
            keys[k] = key;
            count++;
        }

        boolean isPlace(int k) {
            return k >= 0 && k < count;
        }

        int placeOf(int put) {
            for (int k = 0; k < count; k++) {
                if (puts[k] == put) {
                    return k;
                }
            }
            return NONE;
        }

        int firstDifference(Listing other) {
            int shared = Math.min(count, other.count);
            for (int k = 0; k < shared; k++) {
                if (puts[k] != other.puts[k] || sayings[k] != other.sayings[k]) {
                    return k;
                }
            }
            return count == other.count ? NONE : shared;
        }

        boolean isLike(Listing other) {
            if (firstDifference(other) != NONE) {
                return false;
            }
            for (int k = 0; k < count; k++) {
                if (keys[k] != other.keys[k]) {
                    return false;
                }
            }
            return true;
        }
    }

    private static final class QuietSearch {
        private final Book book;
        private final int whole;
        private int best;

        QuietSearch(Book ofBook, int set) {
            book = ofBook;
            whole = set;
            best = set;
        }

        int fewestOut() {
            seek(whole, 0);
            return best;
        }

        // A quiet SET either lacks the one that quarrels most, or all those it quarrels with:
        // so each level takes at least one CHANGE out, and there are few branches.
        private void seek(int left, int depth) {
            int out = whole & ~left;
            if (depth > CHANGES || Integer.bitCount(out) > Integer.bitCount(best)) {
                return;
            }
            int change = book.mostQuarrelling(left);
            if (change == NONE) {
                keepBetter(out);
                return;
            }
            seek(book.without(left, change), depth + 1);
            int quarrelers = book.quarrelersOf(left, change);
            int others = left;
            for (int c = 0; c < book.changes; c++) {
                if (Book.isIn(quarrelers, c)) {
                    others = book.without(others, c);
                }
            }
            seek(others, depth + 1);
        }

        private void keepBetter(int out) {
            int count = Integer.bitCount(out);
            int bestCount = Integer.bitCount(best);
            if (count < bestCount || count == bestCount && out < best) {
                best = out;
            }
        }
    }

    private static final class OrderCounter {
        // 16 CHANGES have less than 2 to the 45 ORDERS: above these bits stands the number of the
        // count that wrote an entry, so that the row need not be emptied ahead of each count.
        private static final int WAYS_BITS = 45;
        private static final long WAYS_MASK = (1L << WAYS_BITS) - 1;
        private static final int LAST_STAMP = 1 << 18;

        private Book book = new Book();
        private int set = 0;
        private int early = NONE;
        private int late = NONE;
        private int stamp = 0;
        private long[] ways = new long[1];

        long countOrders(Book ofBook, int ofSet) {
            return countOrdersWith(ofBook, ofSet, NONE, NONE);
        }

        long countOrdersWith(Book ofBook, int ofSet, int first, int second) {
            book = ofBook;
            set = ofSet;
            early = first;
            late = second;
            stamp++;
            if (set >= ways.length || stamp >= LAST_STAMP) {
                ways = new long[1 << ofBook.changes];
                stamp = 1;
            }
            return waysBehind(0, 0);
        }

        private boolean isReady(int change, int placed) {
            int needed = book.below[change];
            if (change == late) {
                needed |= 1 << early;
            }
            return (needed & ~placed) == 0;
        }

        private boolean isAwaited(int change, int rest) {
            return (book.above[change] & rest) != 0 || change == early && Book.isIn(rest, late);
        }

        // How many ways there are to set the rest behind those placed.
        private long waysBehind(int placed, int depth) {
            if (placed == set) {
                return 1;
            }
            if (depth > CHANGES || placed < 0 || placed >= ways.length) {
                return 0;
            }
            if (ways[placed] >> WAYS_BITS == stamp) {
                return ways[placed] & WAYS_MASK;
            }
            int ready = readyOnes(placed);
            int free = freeAmong(ready, set & ~placed);
            long sum;
            if (free != 0) {
                int rest = Integer.bitCount(set & ~placed);
                sum = waysBehind(placed | free, depth + 1) * places(rest, Integer.bitCount(free));
            } else {
                sum = sumOver(ready, placed, depth);
            }
            ways[placed] = (long) stamp << WAYS_BITS | sum;
            return sum;
        }

        private long sumOver(int ready, int placed, int depth) {
            long sum = 0;
            for (int c = 0; c < book.changes; c++) {
                if (Book.isIn(ready, c)) {
                    sum += waysBehind(placed | 1 << c, depth + 1);
                }
            }
            return sum;
        }

        private int readyOnes(int placed) {
            int ready = 0;
            for (int c = 0; c < book.changes; c++) {
                if (Book.isIn(set & ~placed, c) && isReady(c, placed)) {
                    ready |= 1 << c;
                }
            }
            return ready;
        }

        // Those of the rest that hang together with no other one: they may stand anywhere in it,
        // so they need not be tried one by one.
        private int freeAmong(int ready, int rest) {
            int free = 0;
            for (int c = 0; c < book.changes; c++) {
                if (Book.isIn(ready, c) && !isAwaited(c, rest)) {
                    free |= 1 << c;
                }
            }
            return free;
        }

        private static long places(int rest, int many) {
            long product = 1;
            for (int i = 0; i < many; i++) {
                product *= rest - i;
            }
            return product;
        }

        // The ORDER of a number of the SET counted latest: how many CHANGES.
        int writeOrder(long number, int[] into) {
            int placed = 0;
            int count = 0;
            long left = number;
            int many = Integer.bitCount(set);
            for (int k = 0; k < many && k < into.length; k++) {
                for (int c = 0; c < book.changes; c++) {
                    if (Book.isIn(set & ~placed, c) && isReady(c, placed)) {
                        long behind = waysBehind(placed | 1 << c, 0);
                        if (left < behind) {
                            into[k] = c;
                            placed |= 1 << c;
                            count++;
                            break;
                        }
                        left -= behind;
                    }
                }
            }
            return count;
        }

        long numberOf(Book ofBook, int[] order, int length) {
            int whole = 0;
            for (int k = 0; k < length && k < order.length; k++) {
                whole |= 1 << order[k];
            }
            countOrdersWith(ofBook, whole, NONE, NONE);
            int placed = 0;
            long number = 0;
            for (int k = 0; k < length && k < order.length; k++) {
                for (int c = 0; c < order[k]; c++) {
                    if (Book.isIn(set & ~placed, c) && isReady(c, placed)) {
                        number += waysBehind(placed | 1 << c, 0);
                    }
                }
                placed |= 1 << order[k];
            }
            return number;
        }
    }

    private static final class Tokens {
        static final int ISLAND = 0;
        static final int PUT = 1;
        static final int KEY = 2;
        static final int SAYS = 3;
        static final int TAKE = 4;
        static final int OF = 5;
        static final int NAME = 6;
        static final int MOVE = 7;
        static final int SETTLE = 8;
        static final int NOT = 9;
        static final int AFTER = 10;
        static final int MAKE = 11;
        static final int AT = 12;
        static final int SHIP = 13;
        static final int TO = 14;
        static final int LATE = 15;
        static final int TWICE = 16;
        static final int OUT = 17;
        static final int PICK = 18;
        static final int WHEN = 19;
        static final int HAS = 20;
        static final int QUIET = 21;
        static final int DAY = 22;
        static final int DRAW = 23;
        static final int WAIT = 24;
        static final int LOOP = 25;
        static final int END = 26;
        static final int STOP = 27;
        private static final int KEYWORDS = 28;
        private static final int IS_NAME = 28;
        private static final int IS_LONG_WORD = 29;
        private static final int IS_NUMBER = 30;
        static final int IS_SIGN = 31;
        private static final int IS_NOTHING = 32;
        private static final int IS_END = 33;
        // The words in the order of the numbers above, a blank behind each.
        private static final String SPELLINGS = "island put key says take of name move settle not after make at ship to late twice out pick when has quiet day draw wait loop end stop ";

        static final int NO_TOKEN = 1;
        static final int MISPLACED = 2;
        static final int WRONG_NAME = 3;
        static final int WRONG_NUMBER = 4;
        static final int WRONG_CHANGE = 5;
        static final int ONE_TOO_MANY = 6;
        static final int TOO_DEEP = 7;

        private static final int NAME_LETTERS = 8;
        private static final int NUMBER_DIGITS = 4;

        private final byte[] tape = new byte[TAPE_LENGTH];
        private final long[] keywordNames = new long[KEYWORDS];
        int tapeLength = 0;
        int fault = NONE;
        int faultPlace = NONE;
        private int textLength = 0;
        // The tokens of the text, the end the last of them; a word's value is the number that its
        // letters make.
        private final int[] kinds = new int[TAPE_LENGTH + 1];
        private final int[] starts = new int[TAPE_LENGTH + 1];
        private final long[] values = new long[TAPE_LENGTH + 1];
        private int last = 0;
        private int at = 0;

        Tokens() {
            int word = 0;
            long letters = 0;
            for (int i = 0; i < SPELLINGS.length() && word < KEYWORDS; i++) {
                char sign = SPELLINGS.charAt(i);
                if (sign == ' ') {
                    keywordNames[word] = letters;
                    word++;
                    letters = 0;
                } else {
                    letters = withLetter(letters, sign);
                }
            }
        }

        private static long withLetter(long letters, int sign) {
            return letters * 27 + (sign - 'a' + 1);
        }

        boolean hasRoom(int bytes) {
            return bytes <= TAPE_LENGTH - tapeLength;
        }

        void addBytes(int four) {
            for (int shift = 24; shift >= 0 && tapeLength < TAPE_LENGTH; shift -= 8) {
                tape[tapeLength] = (byte) (four >> shift);
                tapeLength++;
            }
        }

        // The first bytes of the tape are the text now, and the tape is empty.
        void begin(int length) {
            textLength = Math.min(length, tapeLength);
            tapeLength = 0;
            fault = 0;
            faultPlace = NONE;
            last = 0;
            at = 0;
            int place = 0;
            while (place < textLength && last < TAPE_LENGTH) {
                if (tape[place] == 10 || tape[place] == ' ') {
                    place++;
                } else {
                    place = addToken(place);
                    last++;
                }
            }
            kinds[last] = IS_END;
            starts[last] = textLength;
        }

        // Where the token ends.
        private int addToken(int place) {
            starts[last] = place;
            if (isLetter(tape[place])) {
                return addWord(place);
            }
            if (isDigit(tape[place])) {
                return addNumber(place);
            }
            kinds[last] = tape[place] == ';' ? IS_SIGN : IS_NOTHING;
            return place + 1;
        }

        private static boolean isLetter(int sign) {
            return sign >= 'a' && sign <= 'z';
        }

        private static boolean isDigit(int sign) {
            return sign >= '0' && sign <= '9';
        }

        private int addWord(int from) {
            int place = from;
            long letters = 0;
            while (place < textLength && isLetter(tape[place])) {
                if (place - from < NAME_LETTERS) {
                    letters = withLetter(letters, tape[place]);
                }
                place++;
            }
            values[last] = letters;
            kinds[last] = place - from > NAME_LETTERS ? IS_LONG_WORD : kindOfWord(letters);
            return place;
        }

        private int kindOfWord(long letters) {
            for (int word = 0; word < KEYWORDS; word++) {
                if (keywordNames[word] == letters) {
                    return word;
                }
            }
            return IS_NAME;
        }

        private int addNumber(int from) {
            int place = from;
            long number = 0;
            while (place < textLength && isDigit(tape[place])) {
                if (place - from < NUMBER_DIGITS) {
                    number = number * 10 + (tape[place] - '0');
                }
                place++;
            }
            values[last] = number;
            kinds[last] = place - from > NUMBER_DIGITS ? IS_NOTHING : IS_NUMBER;
            return place;
        }

        // The number of the word that stands here, or what else does.
        int kindHere() {
            return kinds[at];
        }

        long nameHere() {
            return values[at];
        }

        boolean isName() {
            return kinds[at] == IS_NAME;
        }

        boolean isEnd() {
            return at >= last;
        }

        void advance() {
            if (at < last) {
                at++;
            }
        }

        // False, for those whose reading ends with it.
        boolean blame(int why) {
            fault = why;
            faultPlace = starts[at];
            return false;
        }

        boolean blameToken() {
            fault = kinds[at] == IS_NOTHING ? NO_TOKEN : MISPLACED;
            faultPlace = starts[at];
            return false;
        }

        // Passes a word, or the sign.
        boolean pass(int kind) {
            if (kinds[at] != kind) {
                return blameToken();
            }
            advance();
            return true;
        }

        // The number passed, or NONE behind a FAULT.
        int passNumber(int least, int most) {
            if (kinds[at] != IS_NUMBER) {
                blameToken();
                return NONE;
            }
            int number = (int) values[at];
            if (number < least || number > most) {
                blame(WRONG_NUMBER);
                return NONE;
            }
            advance();
            return number;
        }

        // The CHANGE that is named here, or NONE behind a FAULT.
        int changeHere(Book book) {
            if (!isName()) {
                blameToken();
                return NONE;
            }
            int change = book.findChange(values[at]);
            if (change == NONE) {
                blame(WRONG_NAME);
            }
            return change;
        }

        // Likewise the ISLAND.
        int islandHere(Book book) {
            if (!isName()) {
                blameToken();
                return NONE;
            }
            int island = book.findIsland(values[at]);
            if (island == NONE) {
                blame(WRONG_NAME);
            }
            return island;
        }
    }

    private static final class BookReader {
        private static final int MOST_NUMBER = 9999;

        private final Tokens tokens;
        private final Book book = new Book();

        BookReader(Tokens fromTokens) {
            tokens = fromTokens;
        }

        // What is told ahead of a FAULT is there, too: the caller asks for the FAULT.
        Book readBook(int length) {
            tokens.begin(length);
            boolean good = true;
            for (int part = 0; part < TAPE_LENGTH && good && !tokens.isEnd(); part++) {
                good = tokens.kindHere() == Tokens.ISLAND ? readIsland() : readChange();
            }
            return book;
        }

        private boolean readIsland() {
            if (book.islands >= ISLANDS) {
                return tokens.blame(Tokens.ONE_TOO_MANY);
            }
            tokens.advance();
            if (!isNewName()) {
                return false;
            }
            book.addIsland(tokens.nameHere());
            tokens.advance();
            return tokens.pass(Tokens.IS_SIGN);
        }

        private boolean isNewName() {
            if (!tokens.isName()) {
                return tokens.blameToken();
            }
            long name = tokens.nameHere();
            boolean taken = book.findIsland(name) != NONE || book.findChange(name) != NONE;
            return !taken || tokens.blame(Tokens.WRONG_NAME);
        }

        private static int kindOf(int word) {
            switch (word) {
                case Tokens.PUT:
                    return Book.PUT;
                case Tokens.TAKE:
                    return Book.TAKE;
                case Tokens.NAME:
                    return Book.RENAME;
                case Tokens.MOVE:
                    return Book.MOVE;
                case Tokens.SETTLE:
                    return Book.SETTLE;
                default:
                    return NONE;
            }
        }

        private boolean readChange() {
            int kind = kindOf(tokens.kindHere());
            if (kind == NONE) {
                return tokens.blameToken();
            }
            int c = book.changes;
            if (c >= CHANGES) {
                return tokens.blame(Tokens.ONE_TOO_MANY);
            }
            tokens.advance();
            if (!isNewName()) {
                return false;
            }
            book.changeNames[c] = tokens.nameHere();
            book.kinds[c] = kind;
            book.numbers[c] = NONE;
            tokens.advance();
            if (!readBody(c, kind) || !readAfter(c) || !tokens.pass(Tokens.IS_SIGN)) {
                return false;
            }
            book.addChange();
            return true;
        }

        private boolean readBody(int c, int kind) {
            switch (kind) {
                case Book.PUT:
                    book.things[c] = c;
                    return readNumber(c, Tokens.KEY) && readSaying(c);
                case Book.TAKE:
                    return readOf(c);
                case Book.RENAME:
                    return readOf(c) && readNumber(c, Tokens.SAYS);
                case Book.MOVE:
                    return readOf(c) && readNumber(c, Tokens.KEY);
                default:
                    return readSettled(c);
            }
        }

        private boolean readNumber(int c, int word) {
            if (!tokens.pass(word)) {
                return false;
            }
            book.numbers[c] = tokens.passNumber(0, MOST_NUMBER);
            return book.numbers[c] != NONE;
        }

        private boolean readSaying(int c) {
            if (!tokens.pass(Tokens.SAYS)) {
                return false;
            }
            book.sayings[c] = tokens.passNumber(0, MOST_NUMBER);
            return book.sayings[c] != NONE;
        }

        private boolean readOf(int c) {
            if (!tokens.pass(Tokens.OF)) {
                return false;
            }
            int of = tokens.changeHere(book);
            if (of == NONE) {
                return false;
            }
            if (book.kinds[of] == Book.TAKE || book.kinds[of] == Book.SETTLE) {
                return tokens.blame(Tokens.WRONG_CHANGE);
            }
            tokens.advance();
            book.things[c] = book.things[of];
            book.direct[c] = 1 << of;
            return true;
        }

        private boolean readSettled(int c) {
            if (!tokens.pass(Tokens.OF)) {
                return false;
            }
            int winner = tokens.changeHere(book);
            if (winner == NONE) {
                return false;
            }
            if (book.kinds[winner] == Book.PUT || book.kinds[winner] == Book.SETTLE) {
                return tokens.blame(Tokens.WRONG_CHANGE);
            }
            tokens.advance();
            if (!tokens.pass(Tokens.NOT)) {
                return false;
            }
            int loser = tokens.changeHere(book);
            if (loser == NONE) {
                return false;
            }
            // A PUT, a SETTLE and the first one itself are no foes of the first one either.
            if (!Book.isIn(book.foes[winner], loser)) {
                return tokens.blame(Tokens.WRONG_CHANGE);
            }
            tokens.advance();
            book.things[c] = book.things[winner];
            book.winners[c] = winner;
            book.losers[c] = loser;
            book.direct[c] = 1 << winner | 1 << loser;
            return true;
        }

        private boolean readAfter(int c) {
            if (tokens.kindHere() != Tokens.AFTER) {
                return true;
            }
            tokens.advance();
            int named = 0;
            // One more than there can be names: the last would be there again.
            for (int i = 0; i <= CHANGES; i++) {
                int change = tokens.changeHere(book);
                if (change == NONE) {
                    return false;
                }
                if (Book.isIn(named, change)) {
                    return tokens.blame(Tokens.WRONG_CHANGE);
                }
                named |= 1 << change;
                tokens.advance();
                if (tokens.kindHere() == Tokens.IS_SIGN) {
                    break;
                }
            }
            book.direct[c] |= named;
            return true;
        }
    }

    // A row for each STEP and each end, as they stand.
    private static final class Log {
        static final int MOST_STEPS = 30;
        static final int MOST_ROWS = 60;

        int steps = 0;
        int rows = 0;
        // The word of the STEP; of a when that of its TEST.
        final int[] words = new int[MOST_ROWS];
        final int[] islands = new int[MOST_ROWS];
        // The CHANGE, or the ISLAND to which a ship goes.
        final int[] others = new int[MOST_ROWS];
        final int[] numbers = new int[MOST_ROWS];
        final boolean[] twice = new boolean[MOST_ROWS];
        // Of an end the row that it ends, of a when or a loop its end.
        final int[] partners = new int[MOST_ROWS];
    }

    private static final class LogReader {
        private static final int MOST_DEPTH = 3;

        private final Tokens tokens;
        private final Book book;
        private final Log log = new Log();
        private final int[] opened = new int[MOST_DEPTH];
        private int depth = 0;

        LogReader(Tokens fromTokens, Book ofBook) {
            tokens = fromTokens;
            book = ofBook;
        }

        // What is told ahead of a FAULT is there, too: the caller asks for the FAULT.
        Log readLog(int length) {
            tokens.begin(length);
            boolean good = true;
            for (int i = 0; i <= LOG_LENGTH && good && !tokens.isEnd(); i++) {
                int row = log.rows;
                int word = tokens.kindHere();
                good = word == Tokens.END ? beginEnd(row) : beginStep(row, word);
                good = good && readBody(row, word) && tokens.pass(Tokens.IS_SIGN);
            }
            if (good && depth > 0) {
                tokens.blameToken();
            }
            return log;
        }

        private static boolean isStep(int word) {
            switch (word) {
                case Tokens.MAKE:
                case Tokens.SHIP:
                case Tokens.OUT:
                case Tokens.PICK:
                case Tokens.WAIT:
                case Tokens.DRAW:
                case Tokens.WHEN:
                case Tokens.LOOP:
                case Tokens.STOP:
                    return true;
                default:
                    return false;
            }
        }

        private boolean beginEnd(int row) {
            if (depth <= 0 || row >= Log.MOST_ROWS) {
                return tokens.blameToken();
            }
            depth--;
            log.words[row] = Tokens.END;
            log.partners[row] = opened[depth];
            log.partners[opened[depth]] = row;
            log.rows++;
            tokens.advance();
            return true;
        }

        private boolean beginStep(int row, int word) {
            if (!isStep(word)) {
                return tokens.blameToken();
            }
            if (log.steps >= Log.MOST_STEPS || row >= Log.MOST_ROWS) {
                return tokens.blame(Tokens.ONE_TOO_MANY);
            }
            if (word == Tokens.WHEN || word == Tokens.LOOP) {
                if (depth >= MOST_DEPTH) {
                    return tokens.blame(Tokens.TOO_DEEP);
                }
                opened[depth] = row;
                depth++;
            }
            log.words[row] = word;
            log.rows++;
            log.steps++;
            tokens.advance();
            return true;
        }

        private boolean readBody(int row, int word) {
            switch (word) {
                case Tokens.MAKE:
                case Tokens.OUT:
                case Tokens.PICK:
                    return readChange(row) && tokens.pass(Tokens.AT) && readIsland(row);
                case Tokens.SHIP:
                    return readIsland(row) && tokens.pass(Tokens.TO) && readTarget(row) && readDelay(row);
                case Tokens.WAIT:
                case Tokens.LOOP:
                    return readNumber(row, 1, 99);
                case Tokens.DRAW:
                    return readNumber(row, 0, 16);
                case Tokens.WHEN:
                    return readTest(row);
                default:
                    return true;
            }
        }

        private boolean readTest(int row) {
            int word = tokens.kindHere();
            log.words[row] = word;
            switch (word) {
                case Tokens.HAS:
                    tokens.advance();
                    return readIsland(row) && readChange(row);
                case Tokens.QUIET:
                    tokens.advance();
                    return readIsland(row);
                case Tokens.DAY:
                    tokens.advance();
                    return readNumber(row, 0, 999);
                default:
                    return tokens.blameToken();
            }
        }

        private boolean readDelay(int row) {
            if (tokens.kindHere() == Tokens.LATE) {
                tokens.advance();
                if (!readNumber(row, 0, 9)) {
                    return false;
                }
            }
            if (tokens.kindHere() == Tokens.TWICE) {
                log.twice[row] = true;
                tokens.advance();
            }
            return true;
        }

        private boolean readChange(int row) {
            log.others[row] = tokens.changeHere(book);
            return advanceBehind(log.others[row]);
        }

        private boolean readTarget(int row) {
            log.others[row] = tokens.islandHere(book);
            return advanceBehind(log.others[row]);
        }

        private boolean readIsland(int row) {
            log.islands[row] = tokens.islandHere(book);
            return advanceBehind(log.islands[row]);
        }

        private boolean advanceBehind(int named) {
            if (named == NONE) {
                return false;
            }
            tokens.advance();
            return true;
        }

        private boolean readNumber(int row, int least, int most) {
            log.numbers[row] = tokens.passNumber(least, most);
            return log.numbers[row] != NONE;
        }
    }

    private static final class Voyage {
        private static final int MOST_CARGOES = 20;
        private static final int MOST_STEPS = 300;
        // Far above the 300 STEPS with at most 99 ends each.
        private static final int MOST_ROUNDS = 1000000;

        final int[] has = new int[ISLANDS];
        int steps = 0;
        int day = 0;
        int missed = 0;
        int came = 0;
        int lost = 0;
        int cargoes = 0;
        private Book book = new Book();
        private Log log = new Log();
        private int chance = 0;
        private int ships = 0;
        // The cargoes on their way, as they set out.
        private final int[] cargoSets = new int[MOST_CARGOES];
        private final int[] cargoTargets = new int[MOST_CARGOES];
        private final int[] cargoDays = new int[MOST_CARGOES];
        private final int[] cargoShips = new int[MOST_CARGOES];
        private final int[] roundsLeft = new int[Log.MOST_ROWS];

        void run(Book ofBook, Log ofLog, int[] from, int seed) {
            book = ofBook;
            log = ofLog;
            for (int i = 0; i < ISLANDS && i < from.length; i++) {
                has[i] = from[i];
            }
            steps = 0;
            day = 0;
            missed = 0;
            came = 0;
            lost = 0;
            cargoes = 0;
            ships = 0;
            chance = seed;
            int row = 0;
            for (int round = 0; round < MOST_ROUNDS && isRow(row); round++) {
                row = log.words[row] == Tokens.END ? rowAfterEnd(row) : rowAfterStep(row);
            }
        }

        private boolean isRow(int row) {
            return row >= 0 && row < log.rows && row < Log.MOST_ROWS;
        }

        boolean allAlike() {
            for (int i = 1; i < book.islands; i++) {
                if (has[i] != has[0]) {
                    return false;
                }
            }
            return true;
        }

        private int rowAfterEnd(int row) {
            int begun = log.partners[row];
            if (isRow(begun) && log.words[begun] == Tokens.LOOP) {
                roundsLeft[begun]--;
                if (roundsLeft[begun] > 0) {
                    return begun + 1;
                }
            }
            return row + 1;
        }

        // NONE if all is over.
        private int rowAfterStep(int row) {
            if (steps >= MOST_STEPS) {
                return NONE;
            }
            steps++;
            switch (log.words[row]) {
                case Tokens.STOP:
                    return NONE;
                case Tokens.LOOP:
                    roundsLeft[row] = log.numbers[row];
                    return row + 1;
                case Tokens.HAS:
                case Tokens.QUIET:
                case Tokens.DAY:
                    return isSo(row) ? row + 1 : log.partners[row] + 1;
                default:
                    if (!doStep(row)) {
                        missed++;
                    }
                    return row + 1;
            }
        }

        private boolean isSo(int row) {
            int island = log.islands[row];
            switch (log.words[row]) {
                case Tokens.HAS:
                    return book.isIsland(island) && Book.isIn(has[island], log.others[row]);
                case Tokens.QUIET:
                    return book.isIsland(island) && book.mostQuarrelling(has[island]) == NONE;
                default:
                    return day >= log.numbers[row];
            }
        }

        // False if it is MISSED.
        private boolean doStep(int row) {
            switch (log.words[row]) {
                case Tokens.WAIT:
                    day += log.numbers[row];
                    landDue();
                    return true;
                case Tokens.DRAW:
                    draw(log.numbers[row]);
                    return true;
                case Tokens.SHIP:
                    return setOut(row);
                default:
                    return alter(log.words[row], log.islands[row], log.others[row]);
            }
        }

        private boolean alter(int word, int island, int change) {
            if (!book.isIsland(island) || !book.isChange(change)) {
                return false;
            }
            switch (word) {
                case Tokens.MAKE:
                    if ((book.below[change] & ~has[island]) != 0) {
                        return false;
                    }
                    has[island] |= 1 << change;
                    return true;
                case Tokens.OUT:
                    has[island] = book.without(has[island], change);
                    return true;
                default:
                    if (!isAnywhere(change)) {
                        return false;
                    }
                    has[island] = book.including(has[island], change);
                    return true;
            }
        }

        private boolean isAnywhere(int change) {
            for (int i = 0; i < book.islands; i++) {
                if (Book.isIn(has[i], change)) {
                    return true;
                }
            }
            return false;
        }

        // What comes at once is never on its way: it takes none of the places.
        private boolean setOut(int row) {
            int from = log.islands[row];
            int to = log.others[row];
            if (!book.isIsland(from) || !book.isIsland(to) || from == to) {
                return false;
            }
            int delay = log.numbers[row];
            int onWay = (delay > 0 ? 1 : 0) + (log.twice[row] ? 1 : 0);
            if (cargoes + onWay > MOST_CARGOES) {
                return false;
            }
            ships++;
            if (delay > 0) {
                addCargo(has[from], to, day + delay);
            } else {
                land(has[from], to);
            }
            if (log.twice[row]) {
                addCargo(has[from], to, day + delay + 1);
            }
            return true;
        }

        private void addCargo(int set, int to, int due) {
            if (cargoes < MOST_CARGOES) {
                cargoSets[cargoes] = set;
                cargoTargets[cargoes] = to;
                cargoDays[cargoes] = due;
                cargoShips[cargoes] = ships;
                cargoes++;
            }
        }

        private void land(int set, int to) {
            if (book.isIsland(to)) {
                has[to] |= set;
            }
            came++;
        }

        // All that came in some DAYS at once: no STEP looks in between, and what comes is had, too,
        // in whatever order it comes.
        private void landDue() {
            int kept = 0;
            for (int i = 0; i < cargoes && i < MOST_CARGOES; i++) {
                if (cargoDays[i] <= day) {
                    land(cargoSets[i], cargoTargets[i]);
                } else {
                    moveCargo(i, kept);
                    kept++;
                }
            }
            cargoes = kept;
        }

        private void moveCargo(int i, int to) {
            cargoSets[to] = cargoSets[i];
            cargoTargets[to] = cargoTargets[i];
            cargoDays[to] = cargoDays[i];
            cargoShips[to] = cargoShips[i];
        }

        private void draw(int below) {
            chance = (chance * 2749 + 9733) % 65536;
            if (chance / 8 % 16 >= below || cargoes <= 0 || cargoes > MOST_CARGOES) {
                return;
            }
            int latest = cargoShips[cargoes - 1];
            for (int i = MOST_CARGOES; i > 0 && cargoes > 0 && cargoShips[cargoes - 1] == latest; i--) {
                cargoes--;
                lost++;
            }
        }
    }
}
