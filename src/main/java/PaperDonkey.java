/** Struck with eyes bound: what a paper donkey of parts, those who strike it and its sweets come to. */
public final class PaperDonkey {
    /** There is none. */
    public static final int NONE = -1;

    private static final int NO_SUCH = -2;
    private static final int TAPE = 600;
    private static final int FEED = 20;
    private static final int SORTS = 5;
    private static final int PARTIES = 0;
    private static final int BOOKS = 1;
    private static final int CLUES = 2;
    private static final int GROUNDS = 3;
    private static final int RECORDS = 4;
    private static final int OF_A_SORT = 2;
    private static final int IMAGES = 3;

    private static final int MOST_PARTS = 5;
    private static final int MOST_STRENGTH = 30;
    private static final int MOST_CHILDREN = 8;
    private static final int MOST_STICK = 3;
    private static final int MOST_DEEDS = 40;
    private static final int MOST_CLUES = 8;
    private static final int MOST_FALLS = 25;
    private static final int MOST_SHOUTS = 40;
    private static final int MOST_TRIES = 15;
    private static final int MOST_RAISE = 9;
    private static final int MOST_LAYERS = 9;
    private static final int MOST_TO_ORDER = 5;
    private static final int MOST_BLOWS = 15;
    private static final int WAYS = 8;
    private static final int CELLS = 25;
    private static final int SIDE_CELLS = 5;
    private static final int MIDDLE = 12;
    private static final int RINGS = 3;
    private static final int BELLY = 0;

    private static final int FOE_TIE = 0;
    private static final int NO_TIE = 1;
    private static final int FRIEND_TIE = 2;

    private static final int AIR_BLOW = 0;
    private static final int GRAZING_BLOW = 1;
    private static final int SQUARE_BLOW = 2;

    private static final int EVEN = 1;
    private static final int THANKS = 2;
    private static final int SMALL = 3;

    // The kinds of lines stand by sorts; of DEEDS and of CLUES in the order of deed() and clue().
    private static final int PART = 0;
    private static final int CHILD = 1;
    private static final int CELL = 2;
    private static final int FRIEND = 3;
    private static final int FOE = 4;
    private static final int TURNED = 5;
    private static final int RING = 6;
    private static final int BLOWS = 7;
    private static final int LIFT = 8;
    private static final int SWEETS = 9;
    private static final int BANDAGE = 10;
    private static final int STICK = 11;
    private static final int GO = 12;
    private static final int FACE = 13;
    private static final int STRIKE = 14;
    private static final int UP = 15;
    private static final int DOWN = 16;
    private static final int CUT = 17;
    private static final int SAYS = 18;
    private static final int AIR = 19;
    private static final int GRAZE = 20;
    private static final int SQUARE = 21;
    private static final int TRUTH = 22;
    private static final int FELL = 23;
    private static final int TRUE = 24;
    private static final int FALSE = 25;
    private static final int HIT = 26;
    private static final int MISS = 27;
    private static final int KINDS = 28;

    // Of each sort the first kind, and behind the last sort the end of all kinds.
    private static final int[] FIRST_KIND = {0, 12, 18, 23, 24, 28};
    private static final int[] NUMBERS = {
        2, 4, 2, 2, 2, 2, 2, 1, 1, 1, 1, 1,
        1, 1, 2, 1, 1, 0,
        2, 1, 1, 1, 2,
        2,
        1, 1, 0, 0};
    private static final int MOST_NUMBERS = 4;
    // Four to a kind.
    private static final int[] LEAST = {
        0, 1, 0, 0, 3, 1, 0, 0, 0, 0, 0, 0, 0, 0, 0, 0, 0, 0, 0, 0, 0, 0, 0, 0,
        0, 0, 0, 0, 1, 0, 0, 0, 3, 0, 0, 0, 0, 0, 0, 0, 0, 0, 0, 0, 0, 0, 0, 0,
        0, 0, 0, 0, 0, 0, 0, 0, 0, 0, 0, 0, 1, 0, 0, 0, 1, 0, 0, 0, 0, 0, 0, 0,
        0, 0, 0, 0, 0, 0, 0, 0, 0, 0, 0, 0, 0, 0, 0, 0, 0, 0, 0, 0,
        0, 1, 0, 0,
        0, 0, 0, 0, 0, 0, 0, 0, 0, 0, 0, 0, 0, 0, 0, 0};
    private static final int[] MOST = {
        9, 30, 0, 0, 15, 9, 10, 9, 7, 24, 0, 0, 7, 7, 0, 0, 7, 7, 0, 0, 7, 9, 0, 0,
        2, 9, 0, 0, 5, 0, 0, 0, 16, 0, 0, 0, 60, 0, 0, 0, 9, 0, 0, 0, 3, 0, 0, 0,
        7, 0, 0, 0, 7, 0, 0, 0, 7, 9, 0, 0, 9, 0, 0, 0, 9, 0, 0, 0, 0, 0, 0, 0,
        7, 7, 0, 0, 7, 0, 0, 0, 7, 0, 0, 0, 7, 0, 0, 0, 7, 10, 0, 0,
        24, 9, 0, 0,
        7, 0, 0, 0, 7, 0, 0, 0, 0, 0, 0, 0, 0, 0, 0, 0};

    private static final long[] TENS = {
        1L, 10L, 100L, 1000L, 10000L, 100000L, 1000000L, 10000000L, 100000000L, 1000000000L,
        10000000000L, 100000000000L, 1000000000000L, 10000000000000L, 100000000000000L,
        1000000000000000L};

    private final Told told = new Told();
    private final Told[] images = new Told[IMAGES];
    private final boolean[] kept = new boolean[IMAGES];
    private final Reader reader = new Reader();
    private final Play play = new Play();
    private final Guess guess = new Guess();
    private final Odds odds = new Odds();
    private final Yard yard = new Yard();
    private final Afternoon afternoon = new Afternoon();

    public PaperDonkey() {
        for (int k = 0; k < IMAGES; k++) {
            images[k] = new Told();
        }
    }

    public int feed(int a, int b, int c, int d, int e) {
        if (told.length + FEED > TAPE) {
            return NONE;
        }
        told.append(a);
        told.append(b);
        told.append(c);
        told.append(d);
        told.append(e);
        return told.length;
    }

    public int end(int n) {
        if (n < 0 || n > told.length) {
            return NONE;
        }
        told.length = n;
        return n;
    }

    public int text(int sort, int at) {
        int place = placeFor(sort, at);
        if (place == NONE) {
            told.fault = 0;
            told.place = NONE;
            told.length = 0;
            return NO_SUCH;
        }
        boolean good = reader.reads(told, sort);
        told.fault = reader.fault;
        told.place = reader.place;
        told.length = 0;
        if (!good) {
            return NONE;
        }
        keepDraft(sort, place);
        return place;
    }

    public int fault(int what) {
        if (what == 0) {
            return told.fault;
        }
        return what == 1 ? told.place : NONE;
    }

    public int party(int party, int what) {
        Party p = partyAt(party);
        return p == null ? NONE : p.answer(what);
    }

    public int child(int party, int child, int what) {
        Party p = partyAt(party);
        return p == null || !p.has(child) ? NONE : p.answerOf(child, what);
    }

    public int deed(int book, int k, int what) {
        Lines b = bookAt(book);
        if (b == null) {
            return NO_SUCH;
        }
        if (k == NONE && what == 0) {
            return b.size;
        }
        return b.answer(k, what);
    }

    public int stop(int party, int book) {
        Party p = partyAt(party);
        Lines b = bookAt(book);
        return p == null || b == null ? NONE : play.runs(p, b, b.size);
    }

    public int state(int party, int book, int n, int what) {
        Party p = partyAt(party);
        Lines b = bookAt(book);
        if (p == null || b == null || n < 0 || play.runs(p, b, n) != n) {
            return NO_SUCH;
        }
        return play.answer(p, what);
    }

    public int did(int party, int book, int n, int child, int what) {
        Party p = partyAt(party);
        Lines b = bookAt(book);
        if (p == null || b == null || n < 0 || !p.has(child) || play.runs(p, b, n) != n) {
            return NO_SUCH;
        }
        return play.answerOf(child, what);
    }

    public int span(int party, int book, boolean most) {
        Party p = partyAt(party);
        Lines b = bookAt(book);
        if (p == null || b == null) {
            return NONE;
        }
        play.runs(p, b, b.size);
        return most ? play.mostBelly() : play.leastBelly();
    }

    public int clue(int clues, int k, int what) {
        Clues c = cluesAt(clues);
        if (c == null) {
            return NO_SUCH;
        }
        if (k != NONE) {
            return c.lines.answer(k, what);
        }
        if (what == 0) {
            return c.lines.size;
        }
        return what >= 10 && what < 10 + MOST_CHILDREN ? c.truth[what - 10] : NO_SUCH;
    }

    public long hangs(int party, int clues, int way, boolean under) {
        Party p = partyAt(party);
        Clues c = cluesAt(clues);
        if (p == null || c == null || way < 0 || way >= WAYS) {
            return NONE;
        }
        guess.weighs(p, c, NONE);
        return guess.all == 0 ? NONE : fraction(guess.weight[way], guess.all, under);
    }

    public int aim(int party, int clues, int what) {
        Party p = partyAt(party);
        Clues c = cluesAt(clues);
        if (p == null || c == null) {
            return NO_SUCH;
        }
        switch (what) {
            case 0:
                return guess.bestWay(p, c, NONE);
            case 1:
                return guess.misled(p, c);
            case 2:
                return guess.contrary(p, c);
            default:
                return NO_SUCH;
        }
    }

    public long luck(int party, int clues, int way, boolean under) {
        Party p = partyAt(party);
        Clues c = cluesAt(clues);
        if (p == null || c == null || way < 0 || way >= WAYS) {
            return NONE;
        }
        guess.weighs(p, c, NONE);
        return guess.all == 0 ? NONE : fraction(guess.weight[way] + guess.beside(way), guess.all, under);
    }

    public long chance(int party, int order, int layers, int what, boolean under) {
        Party p = partyAt(party);
        if (p == null || !p.canBeTold() || layers < 1 || layers > MOST_LAYERS) {
            return NONE;
        }
        if (!odds.ordersBy(p, order)) {
            return NONE;
        }
        long n = odds.ofWhat(p, layers, what);
        return n < 0 ? NONE : fraction(n, odds.ofAll(p), under);
    }

    public long uncle(int party, boolean under) {
        Party p = partyAt(party);
        if (p == null || !p.canBeTold()) {
            return NONE;
        }
        odds.knowsAll(p);
        return fraction(odds.bestAt(0, p.strength[BELLY]), odds.ofAll(p), under);
    }

    public int lifts(int party, int i, int b, int strength) {
        Party p = partyAt(party);
        if (p == null || !p.canBeTold() || !p.has(i) || b < 0 || b >= p.blows) {
            return NONE;
        }
        if (strength < 1 || strength > MOST_STRENGTH) {
            return NONE;
        }
        odds.knowsAll(p);
        return odds.isBetterLifted(p, i, b, strength) ? 1 : 0;
    }

    public int fair(int party) {
        Party p = partyAt(party);
        if (p == null || !p.canBeTold() || p.children > MOST_TO_ORDER) {
            return NONE;
        }
        return odds.fairest(p);
    }

    public int thick(int party) {
        Party p = partyAt(party);
        if (p == null || !p.canBeTold()) {
            return NONE;
        }
        return odds.bestLayers(p);
    }

    public int cell(int party, int striker, int cell, int what) {
        Party p = partyAt(party);
        if (p == null || !p.mayStrike(striker) || cell < 0 || cell >= CELLS) {
            return NONE;
        }
        switch (what) {
            case 0:
                return ringOf(cell);
            case 1:
                return sideOf(cell);
            case 2:
                return yard.whoPicks(p, striker, cell);
            default:
                return NONE;
        }
    }

    public int share(int party, int striker, int child, boolean under) {
        Party p = partyAt(party);
        if (p == null || !p.mayStrike(striker) || !p.has(child)) {
            return NONE;
        }
        return (int) fraction(yard.shareOf(p, striker, child), yard.weightOfAll(p), under);
    }

    public int stand(int party, int striker, int child) {
        Party p = partyAt(party);
        if (p == null || !p.mayStrike(striker) || !p.has(child) || child == striker) {
            return NONE;
        }
        return yard.bestStand(p, striker, child);
    }

    public int danger(int party, int child, boolean under) {
        Party p = partyAt(party);
        if (p == null || !p.has(child)) {
            return NONE;
        }
        return (int) fraction(p.dangerOf(child, p.stick), p.turnedOfAll(), under);
    }

    public int safe(int party, int hundredths) {
        Party p = partyAt(party);
        if (p == null || hundredths < 0 || hundredths > 100) {
            return NONE;
        }
        int stick = MOST_STICK;
        while (stick > 0 && !p.isSafe(stick, hundredths)) {
            stick--;
        }
        return stick;
    }

    public int fell(int ground, int k, int what) {
        Lines g = groundAt(ground);
        if (g == null) {
            return NO_SUCH;
        }
        if (k == NONE) {
            return what == 0 ? g.size : what == 1 ? g.sumOfSeconds() : NO_SUCH;
        }
        if (k < 0 || k >= g.size) {
            return NO_SUCH;
        }
        return what == 0 ? g.first[k] : what == 1 ? g.second[k] : NO_SUCH;
    }

    public int bag(int party, int ground, int striker, int law, int child) {
        Party p = partyAt(party);
        Lines g = groundAt(ground);
        if (p == null || g == null || !p.mayStrike(striker) || child != NONE && !p.has(child)) {
            return NONE;
        }
        if (law == NONE && child == NONE) {
            return yard.mostJust(p, g, striker);
        }
        if (law < 0 || law > SMALL) {
            return NONE;
        }
        yard.fillBags(p, g, striker, law);
        return child == NONE ? yard.uneven(p) : yard.bags[child];
    }

    public int record(int record, int what) {
        Tally t = tallyAt(record);
        return t == null ? NO_SUCH : t.answer(what);
    }

    public int trust(int record, int child, boolean under) {
        Tally t = tallyAt(record);
        if (t == null || child < 0 || child >= MOST_CHILDREN) {
            return NONE;
        }
        int all = t.shoutsOf(child);
        return all == 0 ? NONE : (int) fraction(t.trueShoutsOf(child), all, under);
    }

    public long peeped(int record, int p, int q, boolean under) {
        Tally t = tallyAt(record);
        if (t == null || p < 0 || p > 10 || q < 0 || q > 10) {
            return NONE;
        }
        int hits = t.hits();
        int misses = t.tries.size - hits;
        long blind = power(p, hits) * power(10 - p, misses);
        long peeping = power(q, hits) * power(10 - q, misses);
        return blind + peeping == 0 ? NONE : fraction(peeping, blind + peeping, under);
    }

    public int many(int p, int q, int hundredths) {
        if (p < 0 || p > 10 || q < 0 || q > 10 || hundredths < 0 || hundredths > 100) {
            return NONE;
        }
        for (int hits = 0; hits <= MOST_TRIES; hits++) {
            long peeping = power(q, hits);
            long all = power(p, hits) + peeping;
            if (all > 0 && 100 * peeping >= hundredths * all) {
                return hits;
            }
        }
        return NONE;
    }

    public int drawn(int party, int seed, int what) {
        Party p = partyAt(party);
        if (p == null) {
            return NO_SUCH;
        }
        afternoon.passes(p, seed, yard);
        return what >= 10 && what < 10 + p.children ? yard.bags[what - 10] : afternoon.answer(what);
    }

    public int count(int sort) {
        return sort < 0 || sort >= SORTS ? NO_SUCH : told.sizes[sort];
    }

    public boolean image(int k) {
        if (k < 0 || k >= IMAGES) {
            return false;
        }
        images[k].copy(told);
        kept[k] = true;
        return true;
    }

    public boolean again(int k) {
        if (k < 0 || k >= IMAGES || !kept[k]) {
            return false;
        }
        told.copy(images[k]);
        return true;
    }

    /** Where a text goes that is told to go at a place; NONE if it can't. */
    private int placeFor(int sort, int at) {
        if (sort < 0 || sort >= SORTS) {
            return NONE;
        }
        int size = told.sizes[sort];
        if (at == NONE) {
            return size < OF_A_SORT ? size : NONE;
        }
        return at >= 0 && at < size ? at : NONE;
    }

    private void keepDraft(int sort, int place) {
        switch (sort) {
            case PARTIES:
                told.parties[place].copy(reader.party);
                break;
            case BOOKS:
                told.books[place].copy(reader.book);
                break;
            case CLUES:
                told.clues[place].copy(reader.clues);
                break;
            case GROUNDS:
                told.grounds[place].copy(reader.ground);
                break;
            default:
                told.tallies[place].copy(reader.tally);
                break;
        }
        if (place == told.sizes[sort]) {
            told.sizes[sort]++;
        }
    }

    private Party partyAt(int k) {
        return k >= 0 && k < told.sizes[PARTIES] ? told.parties[k] : null;
    }

    private Lines bookAt(int k) {
        return k >= 0 && k < told.sizes[BOOKS] ? told.books[k] : null;
    }

    private Clues cluesAt(int k) {
        return k >= 0 && k < told.sizes[CLUES] ? told.clues[k] : null;
    }

    private Lines groundAt(int k) {
        return k >= 0 && k < told.sizes[GROUNDS] ? told.grounds[k] : null;
    }

    private Tally tallyAt(int k) {
        return k >= 0 && k < told.sizes[RECORDS] ? told.tallies[k] : null;
    }

    /** The fewest eighths from one WAY to another one. */
    private static int farOf(int a, int b) {
        int right = (a - b) & 7;
        return Math.min(right, WAYS - right);
    }

    private static int stepsBetween(int a, int b) {
        int rows = Math.abs(a / SIDE_CELLS - b / SIDE_CELLS);
        int columns = Math.abs(a % SIDE_CELLS - b % SIDE_CELLS);
        return Math.max(rows, columns);
    }

    private static int ringOf(int cell) {
        return stepsBetween(cell, MIDDLE);
    }

    private static int sideOf(int cell) {
        if (cell == MIDDLE) {
            return NONE;
        }
        int down = cell / SIDE_CELLS - MIDDLE / SIDE_CELLS;
        int right = cell % SIDE_CELLS - MIDDLE % SIDE_CELLS;
        if (Math.abs(down) >= 2 * Math.abs(right)) {
            return down < 0 ? 0 : 4;
        }
        if (Math.abs(right) >= 2 * Math.abs(down)) {
            return right > 0 ? 2 : 6;
        }
        if (right > 0) {
            return down < 0 ? 1 : 3;
        }
        return down > 0 ? 5 : 7;
    }

    /** N or D of a fraction in least terms; one of nothing at all is 0. */
    private static long fraction(long n, long d, boolean under) {
        if (n <= 0 || d <= 0) {
            return under ? 1 : 0;
        }
        long common = commonOf(n, d);
        if (common <= 0) {
            return under ? 1 : 0;
        }
        return under ? d / common : n / common;
    }

    private static long commonOf(long a, long b) {
        long greater = a;
        long less = b;
        // A hundred divisions are more than any two longs need.
        for (int k = 0; k < 100 && less != 0; k++) {
            long rest = greater % less;
            greater = less;
            less = rest;
        }
        return greater;
    }

    private static long power(int base, int n) {
        long product = 1;
        for (int k = 0; k < n && k < MOST_TRIES; k++) {
            product *= base;
        }
        return product;
    }

    private static String wordOf(int kind) {
        switch (kind) {
            case PART: return "part";
            case CHILD: return "child";
            case CELL: return "cell";
            case FRIEND: return "friend";
            case FOE: return "foe";
            case TURNED: return "turned";
            case RING: return "ring";
            case BLOWS: return "blows";
            case LIFT: return "lift";
            case SWEETS: return "sweets";
            case BANDAGE: return "bandage";
            case STICK: return "stick";
            case GO: return "go";
            case FACE: return "face";
            case STRIKE: return "strike";
            case UP: return "up";
            case DOWN: return "down";
            case CUT: return "cut";
            case SAYS: return "says";
            case AIR: return "air";
            case GRAZE: return "graze";
            case SQUARE: return "square";
            case TRUTH: return "truth";
            case FELL: return "fell";
            case TRUE: return "true";
            case FALSE: return "false";
            case HIT: return "hit";
            default: return "miss";
        }
    }

    /** All that is told: what an image keeps. */
    private static final class Told {
        final byte[] tape = new byte[TAPE];
        int length;
        int fault;
        int place = NONE;
        final int[] sizes = new int[SORTS];
        final Party[] parties = new Party[OF_A_SORT];
        final Lines[] books = new Lines[OF_A_SORT];
        final Clues[] clues = new Clues[OF_A_SORT];
        final Lines[] grounds = new Lines[OF_A_SORT];
        final Tally[] tallies = new Tally[OF_A_SORT];

        Told() {
            for (int k = 0; k < OF_A_SORT; k++) {
                parties[k] = new Party();
                books[k] = new Lines(MOST_DEEDS);
                clues[k] = new Clues();
                grounds[k] = new Lines(MOST_FALLS);
                tallies[k] = new Tally();
            }
        }

        /** Four bytes more, the highest first. */
        void append(int number) {
            for (int shift = 24; shift >= 0; shift -= 8) {
                if (length < TAPE) {
                    tape[length] = (byte) (number >>> shift);
                    length++;
                }
            }
        }

        void copy(Told other) {
            System.arraycopy(other.tape, 0, tape, 0, TAPE);
            length = other.length;
            fault = other.fault;
            place = other.place;
            System.arraycopy(other.sizes, 0, sizes, 0, SORTS);
            for (int k = 0; k < OF_A_SORT; k++) {
                parties[k].copy(other.parties[k]);
                books[k].copy(other.books[k]);
                clues[k].copy(other.clues[k]);
                grounds[k].copy(other.grounds[k]);
                tallies[k].copy(other.tallies[k]);
            }
        }
    }

    /** A row of at most so many lines, each of a kind and two numbers. */
    private static final class Lines {
        final int most;
        final int[] kind;
        final int[] first;
        final int[] second;
        int size;

        Lines(int most) {
            this.most = Math.max(0, most);
            kind = new int[this.most];
            first = new int[this.most];
            second = new int[this.most];
        }

        boolean isFull() {
            return size >= most;
        }

        void add(int k, int a, int b) {
            if (!isFull()) {
                kind[size] = k;
                first[size] = a;
                second[size] = b;
                size++;
            }
        }

        int answer(int k, int what) {
            if (k < 0 || k >= size) {
                return NO_SUCH;
            }
            switch (what) {
                case 0:
                    return kind[k];
                case 1:
                    return first[k];
                case 2:
                    return second[k];
                default:
                    return NO_SUCH;
            }
        }

        int sumOfSeconds() {
            int sum = 0;
            for (int k = 0; k < size; k++) {
                sum += second[k];
            }
            return sum;
        }

        void copy(Lines other) {
            // Rows of one length alone are copied: books on books, grounds on grounds.
            if (most == other.most) {
                System.arraycopy(other.kind, 0, kind, 0, most);
                System.arraycopy(other.first, 0, first, 0, most);
                System.arraycopy(other.second, 0, second, 0, most);
                size = other.size;
            }
        }
    }

    private static final class Clues {
        final Lines lines = new Lines(MOST_CLUES);
        final int[] truth = new int[MOST_CHILDREN];

        void clear() {
            lines.size = 0;
            for (int c = 0; c < MOST_CHILDREN; c++) {
                truth[c] = 5;
            }
        }

        void copy(Clues other) {
            lines.copy(other.lines);
            System.arraycopy(other.truth, 0, truth, 0, MOST_CHILDREN);
        }
    }

    /** A RECORD: of SHOUTS first is who, second 1 if true; of TRIES second is 1 for a hit. */
    private static final class Tally {
        final Lines shouts = new Lines(MOST_SHOUTS);
        final Lines tries = new Lines(MOST_TRIES);

        void clear() {
            shouts.size = 0;
            tries.size = 0;
        }

        int hits() {
            return tries.sumOfSeconds();
        }

        int shoutsOf(int child) {
            int all = 0;
            for (int k = 0; k < shouts.size; k++) {
                if (shouts.first[k] == child) {
                    all++;
                }
            }
            return all;
        }

        int trueShoutsOf(int child) {
            int all = 0;
            for (int k = 0; k < shouts.size; k++) {
                if (shouts.first[k] == child) {
                    all += shouts.second[k];
                }
            }
            return all;
        }

        /** The child whose TRUST is greatest, NONE if nobody shouted. */
        int held() {
            int held = NONE;
            int heldTrue = 0;
            int heldAll = 1;
            for (int c = 0; c < MOST_CHILDREN; c++) {
                int all = shoutsOf(c);
                int right = trueShoutsOf(c);
                if (all > 0 && (held == NONE || right * heldAll > heldTrue * all)) {
                    held = c;
                    heldTrue = right;
                    heldAll = all;
                }
            }
            return held;
        }

        int answer(int what) {
            if (what >= 10 && what < 10 + shouts.size) {
                return shouts.first[what - 10];
            }
            if (what >= 60 && what < 60 + shouts.size) {
                return shouts.second[what - 60];
            }
            if (what >= 110 && what < 110 + tries.size) {
                return tries.second[what - 110];
            }
            switch (what) {
                case 0:
                    return shouts.size;
                case 1:
                    return tries.size;
                case 2:
                    return hits();
                case 3:
                    return held();
                default:
                    return NO_SUCH;
            }
        }

        void copy(Tally other) {
            shouts.copy(other.shouts);
            tries.copy(other.tries);
        }
    }

    private static final class Party {
        int parts;
        final int[] height = new int[MOST_PARTS];
        final int[] strength = new int[MOST_PARTS];
        int children;
        final int[] age = new int[MOST_CHILDREN];
        final int[] force = new int[MOST_CHILDREN];
        final int[] hits = new int[MOST_CHILDREN];
        final int[] quick = new int[MOST_CHILDREN];
        final int[] spot = new int[MOST_CHILDREN];
        final int[] tie = new int[MOST_CHILDREN * MOST_CHILDREN];
        final int[] turned = new int[WAYS];
        final int[] ring = new int[RINGS];
        int blows;
        int lift;
        int sweets;
        int bandage;
        int stick;

        void clear() {
            parts = 0;
            children = 0;
            for (int c = 0; c < MOST_CHILDREN; c++) {
                spot[c] = 0;
            }
            for (int k = 0; k < MOST_CHILDREN * MOST_CHILDREN; k++) {
                tie[k] = NO_TIE;
            }
            for (int w = 0; w < WAYS; w++) {
                turned[w] = 1;
            }
            for (int r = 0; r < RINGS; r++) {
                ring[r] = 1;
            }
            blows = 3;
            lift = 16;
            sweets = 20;
            bandage = 2;
            stick = 1;
        }

        boolean has(int child) {
            return child >= 0 && child < children;
        }

        boolean mayStrike(int striker) {
            return striker == NONE || has(striker);
        }

        boolean canBeTold() {
            return children * blows <= MOST_BLOWS;
        }

        boolean isWhole() {
            return parts > 0 && children > 0 && turnedOfAll() > 0;
        }

        void addPart(int h, int s) {
            if (parts < MOST_PARTS) {
                height[parts] = h;
                strength[parts] = s;
                parts++;
            }
        }

        void addChild(int a, int f, int h, int q) {
            if (children < MOST_CHILDREN) {
                age[children] = a;
                force[children] = f;
                hits[children] = h;
                quick[children] = q;
                children++;
            }
        }

        void setSpot(int child, int cell) {
            if (child >= 0 && child < MOST_CHILDREN) {
                spot[child] = cell;
            }
        }

        void setTie(int child, int other, int how) {
            if (child >= 0 && child < MOST_CHILDREN && other >= 0 && other < MOST_CHILDREN) {
                tie[child * MOST_CHILDREN + other] = how;
            }
        }

        void setTurned(int way, int weight) {
            if (way >= 0 && way < WAYS) {
                turned[way] = weight;
            }
        }

        void setRing(int r, int weight) {
            if (r >= 0 && r < RINGS) {
                ring[r] = weight;
            }
        }

        int tieOf(int child, int other) {
            return has(child) && has(other) ? tie[child * MOST_CHILDREN + other] : NO_TIE;
        }

        int turnedOfAll() {
            int all = 0;
            for (int w = 0; w < WAYS; w++) {
                all += turned[w];
            }
            return all;
        }

        int weightOf(int cell) {
            int r = ringOf(cell);
            return r >= 0 && r < RINGS ? ring[r] : 0;
        }

        /** The weight of the WAYS by which one who was turned strikes at a child. */
        int dangerOf(int child, int byStick) {
            int r = has(child) ? ringOf(spot[child]) : 0;
            if (r < 1 || r > byStick) {
                return 0;
            }
            // He faces so many eighths right of the donkey as it hangs left of his face.
            return turned[(WAYS - sideOf(spot[child])) & 7];
        }

        boolean isSafe(int byStick, int hundredths) {
            int all = turnedOfAll();
            for (int c = 0; c < children; c++) {
                if (100 * dangerOf(c, byStick) > hundredths * all) {
                    return false;
                }
            }
            return true;
        }

        int answer(int what) {
            if (what >= 10 && what < 10 + WAYS) {
                return turned[what - 10];
            }
            if (what >= 20 && what < 20 + RINGS) {
                return ring[what - 20];
            }
            if (what >= 30 && what < 30 + parts) {
                return height[what - 30];
            }
            if (what >= 40 && what < 40 + parts) {
                return strength[what - 40];
            }
            switch (what) {
                case 0:
                    return parts;
                case 1:
                    return children;
                case 2:
                    return blows;
                case 3:
                    return lift;
                case 4:
                    return sweets;
                case 5:
                    return bandage;
                case 6:
                    return stick;
                default:
                    return NONE;
            }
        }

        int answerOf(int child, int what) {
            if (!has(child)) {
                return NONE;
            }
            if (what >= 10 && what < 10 + children) {
                return tieOf(child, what - 10);
            }
            switch (what) {
                case 0:
                    return age[child];
                case 1:
                    return force[child];
                case 2:
                    return hits[child];
                case 3:
                    return quick[child];
                case 4:
                    return spot[child];
                default:
                    return NONE;
            }
        }

        void copy(Party other) {
            parts = other.parts;
            System.arraycopy(other.height, 0, height, 0, MOST_PARTS);
            System.arraycopy(other.strength, 0, strength, 0, MOST_PARTS);
            children = other.children;
            System.arraycopy(other.age, 0, age, 0, MOST_CHILDREN);
            System.arraycopy(other.force, 0, force, 0, MOST_CHILDREN);
            System.arraycopy(other.hits, 0, hits, 0, MOST_CHILDREN);
            System.arraycopy(other.quick, 0, quick, 0, MOST_CHILDREN);
            System.arraycopy(other.spot, 0, spot, 0, MOST_CHILDREN);
            System.arraycopy(other.tie, 0, tie, 0, MOST_CHILDREN * MOST_CHILDREN);
            System.arraycopy(other.turned, 0, turned, 0, WAYS);
            System.arraycopy(other.ring, 0, ring, 0, RINGS);
            blows = other.blows;
            lift = other.lift;
            sweets = other.sweets;
            bandage = other.bandage;
            stick = other.stick;
        }
    }

    /** Reads the tape as a text of a sort into a draft of that sort. */
    private static final class Reader {
        private static final int END = 0;
        private static final int WORD = 1;
        private static final int NUMBER = 2;
        private static final int SEMICOLON = 3;
        private static final int NO_TOKEN = 4;

        final Party party = new Party();
        final Lines book = new Lines(MOST_DEEDS);
        final Clues clues = new Clues();
        final Lines ground = new Lines(MOST_FALLS);
        final Tally tally = new Tally();
        int fault;
        int place;
        private final int[] value = new int[MOST_NUMBERS];
        private int token;
        private int from;
        private int to;
        private int number;
        // CHILDREN told of by cell, friend, foe (bits).
        private int named;

        /** True without a FAULT. */
        boolean reads(Told told, int sort) {
            fault = 0;
            place = NONE;
            clearDrafts();
            to = 0;
            take(told);
            for (int line = 0; line < TAPE && token != END; line++) {
                if (!readsLine(told, sort)) {
                    fault = 1;
                    place = from;
                    return false;
                }
            }
            if (sort == PARTIES && !(party.isWhole() && named >>> party.children == 0)) {
                blame(4, told.length);
            }
            return fault == 0;
        }

        private void clearDrafts() {
            party.clear();
            named = 0;
            book.size = 0;
            clues.clear();
            ground.size = 0;
            tally.clear();
        }

        /** Of FAULTS that are no hindrance to reading on, the first one stands. */
        private void blame(int what, int at) {
            if (fault == 0) {
                fault = what;
                place = at;
            }
        }

        /** False if no text goes on with the token at which it halts. */
        private boolean readsLine(Told told, int sort) {
            int kind = token == WORD ? kindOf(told, sort) : NONE;
            if (kind < 0 || kind >= KINDS) {
                return false;
            }
            if (isFull(kind)) {
                blame(3, from);
            }
            take(told);
            for (int k = 0; k < NUMBERS[kind] && k < MOST_NUMBERS; k++) {
                if (token != NUMBER) {
                    return false;
                }
                value[k] = number;
                if (!canBe(kind, k)) {
                    blame(2, from);
                }
                take(told);
            }
            if (token != SEMICOLON) {
                return false;
            }
            take(told);
            if (fault == 0) {
                keep(kind);
            }
            return true;
        }

        private int kindOf(Told told, int sort) {
            if (sort < 0 || sort >= SORTS) {
                return NONE;
            }
            for (int kind = FIRST_KIND[sort]; kind < FIRST_KIND[sort + 1]; kind++) {
                if (spells(told, wordOf(kind))) {
                    return kind;
                }
            }
            return NONE;
        }

        private boolean spells(Told told, String word) {
            if (word.length() != to - from) {
                return false;
            }
            for (int k = 0; k < word.length(); k++) {
                if (from + k >= TAPE || told.tape[from + k] != word.charAt(k)) {
                    return false;
                }
            }
            return true;
        }

        private boolean canBe(int kind, int k) {
            int limit = kind * MOST_NUMBERS + k;
            if (limit < 0 || limit >= LEAST.length || limit >= MOST.length) {
                return false;
            }
            if ((kind == FRIEND || kind == FOE) && k == 1 && value[1] == value[0]) {
                return false;
            }
            return value[k] >= LEAST[limit] && value[k] <= MOST[limit];
        }

        private boolean isFull(int kind) {
            if (kind == PART) {
                return party.parts >= MOST_PARTS;
            }
            if (kind == CHILD) {
                return party.children >= MOST_CHILDREN;
            }
            if (kind >= GO && kind <= CUT) {
                return book.isFull();
            }
            if (kind >= SAYS && kind <= SQUARE) {
                return clues.lines.isFull();
            }
            if (kind == FELL) {
                return ground.isFull();
            }
            if (kind == TRUE || kind == FALSE) {
                return tally.shouts.isFull();
            }
            return (kind == HIT || kind == MISS) && tally.tries.isFull();
        }

        private void keep(int kind) {
            if (kind < GO) {
                keepOfParty(kind);
            } else if (kind <= CUT) {
                int numbers = NUMBERS[kind];
                book.add(kind - GO, numbers > 0 ? value[0] : NONE, numbers > 1 ? value[1] : NONE);
            } else if (kind == SAYS) {
                clues.lines.add(0, value[0], value[1]);
            } else if (kind <= SQUARE) {
                clues.lines.add(kind - SAYS, NONE, value[0]);
            } else if (kind == TRUTH) {
                if (value[0] >= 0 && value[0] < MOST_CHILDREN) {
                    clues.truth[value[0]] = value[1];
                }
            } else if (kind == FELL) {
                ground.add(0, value[0], value[1]);
            } else if (kind == TRUE || kind == FALSE) {
                tally.shouts.add(0, value[0], kind == TRUE ? 1 : 0);
            } else {
                tally.tries.add(0, NONE, kind == HIT ? 1 : 0);
            }
        }

        private void keepOfParty(int kind) {
            switch (kind) {
                case PART:
                    party.addPart(value[0], value[1]);
                    break;
                case CHILD:
                    party.addChild(value[0], value[1], value[2], value[3]);
                    break;
                case CELL:
                    party.setSpot(value[0], value[1]);
                    named |= 1 << value[0];
                    break;
                case FRIEND:
                    party.setTie(value[0], value[1], FRIEND_TIE);
                    named |= 1 << value[0] | 1 << value[1];
                    break;
                case FOE:
                    party.setTie(value[0], value[1], FOE_TIE);
                    named |= 1 << value[0] | 1 << value[1];
                    break;
                case TURNED:
                    party.setTurned(value[0], value[1]);
                    break;
                case RING:
                    party.setRing(value[0], value[1]);
                    break;
                case BLOWS:
                    party.blows = value[0];
                    break;
                case LIFT:
                    party.lift = value[0];
                    break;
                case SWEETS:
                    party.sweets = value[0];
                    break;
                case BANDAGE:
                    party.bandage = value[0];
                    break;
                default:
                    party.stick = value[0];
                    break;
            }
        }

        /** Takes the next token: from its first byte to the one behind it. */
        private void take(Told told) {
            int length = Math.min(told.length, TAPE);
            from = to;
            while (from < length && isBlank(told.tape[from])) {
                from++;
            }
            to = from;
            if (from >= length) {
                token = END;
            } else if (isLetter(told.tape[from])) {
                while (to < length && isLetter(told.tape[to])) {
                    to++;
                }
                token = WORD;
            } else if (isDigit(told.tape[from])) {
                takeNumber(told, length);
            } else {
                token = told.tape[from] == ';' ? SEMICOLON : NO_TOKEN;
                to++;
            }
        }

        private void takeNumber(Told told, int length) {
            number = 0;
            while (to < length && isDigit(told.tape[to])) {
                if (to - from < 2) {
                    number = number * 10 + told.tape[to] - '0';
                }
                to++;
            }
            token = to - from <= 2 ? NUMBER : NO_TOKEN;
        }

        private static boolean isBlank(int b) {
            return b == 10 || b == 32;
        }

        private static boolean isLetter(int b) {
            return b >= 'a' && b <= 'z';
        }

        private static boolean isDigit(int b) {
            return b >= '0' && b <= '9';
        }
    }

    /** A BOOK at a PARTY, deed by deed. */
    private static final class Play {
        private int who;
        private int made;
        private int way;
        private int raise;
        private int burster;
        private boolean isCut;
        private int gone;
        private int latest;
        private int latestPart;
        private final int[] left = new int[MOST_PARTS];
        private final int[] blowsOf = new int[3 * MOST_CHILDREN];
        private final int[] took = new int[MOST_CHILDREN];
        // What blows at the BELLY would have taken from one of any STRENGTH, and the last of them.
        private int bellyTaken;
        private int bellyLast;

        /** How many of the first n DEEDS can be, one behind the other. */
        int runs(Party p, Lines book, int n) {
            begin(p);
            int done = 0;
            while (done < n && done < book.size
                    && canDo(p, book.kind[done] + GO, book.first[done], book.second[done])) {
                done++;
            }
            return done;
        }

        private void begin(Party p) {
            who = NONE;
            made = 0;
            way = NONE;
            raise = 0;
            burster = NONE;
            isCut = false;
            gone = 0;
            latest = NONE;
            latestPart = NONE;
            bellyTaken = 0;
            bellyLast = 0;
            System.arraycopy(p.strength, 0, left, 0, MOST_PARTS);
            for (int c = 0; c < MOST_CHILDREN; c++) {
                took[c] = 0;
            }
            for (int k = 0; k < 3 * MOST_CHILDREN; k++) {
                blowsOf[k] = 0;
            }
        }

        /** Does the DEED; false, and nothing is done, if it can't be. */
        private boolean canDo(Party p, int kind, int a, int b) {
            if (burster != NONE || isCut) {
                return false;
            }
            switch (kind) {
                case GO:
                    return goes(p, a);
                case FACE:
                    return faces(a);
                case STRIKE:
                    return strikes(p, a, b);
                case UP:
                    return raises(a);
                case DOWN:
                    return raises(-a);
                default:
                    return isCutOpen(p);
            }
        }

        private boolean goes(Party p, int child) {
            if (!p.has(child) || (gone >>> child & 1) == 1 || who != NONE && made < p.blows) {
                return false;
            }
            who = child;
            made = 0;
            way = NONE;
            gone |= 1 << child;
            return true;
        }

        private boolean faces(int w) {
            if (who == NONE || made > 0) {
                return false;
            }
            way = w;
            return true;
        }

        private boolean raises(int more) {
            if (raise + more < 0 || raise + more > MOST_RAISE) {
                return false;
            }
            raise += more;
            return true;
        }

        private boolean isCutOpen(Party p) {
            if (gone != (1 << p.children) - 1) {
                return false;
            }
            isCut = true;
            return true;
        }

        private boolean strikes(Party p, int w, int h) {
            if (!p.has(who) || way == NONE || made >= p.blows) {
                return false;
            }
            latest = SQUARE_BLOW;
            latestPart = firstPartOff(p, w, h, 0);
            if (latestPart == NONE) {
                latest = GRAZING_BLOW;
                latestPart = firstPartOff(p, w, h, 1);
            }
            if (latestPart == NONE) {
                latest = AIR_BLOW;
            } else {
                takes(latestPart, latest == SQUARE_BLOW ? p.force[who] : p.force[who] / 2);
            }
            made++;
            blowsOf[latest * MOST_CHILDREN + who]++;
            return true;
        }

        /** The first PART with STRENGTH left that a blow misses by so much, WAY and HEIGHT together. */
        private int firstPartOff(Party p, int w, int h, int off) {
            for (int part = 0; part < p.parts; part++) {
                int higher = Math.abs(p.height[part] + raise - h);
                if (left[part] > 0 && farOf(way, w) + higher == off) {
                    return part;
                }
            }
            return NONE;
        }

        private void takes(int part, int force) {
            if (part < 0 || part >= MOST_PARTS || who < 0 || who >= MOST_CHILDREN) {
                return;
            }
            int taken = Math.min(left[part], force);
            left[part] -= taken;
            took[who] += taken;
            if (part == BELLY) {
                bellyTaken += force;
                bellyLast = force;
                if (left[BELLY] == 0) {
                    burster = who;
                }
            }
        }

        // While it has not BURST the BELLY has STRENGTH left, so what a blow strikes does not
        // hang on how much: only when it BURSTS tells of that.
        int leastBelly() {
            return burster == NONE ? bellyTaken + 1 : bellyTaken - bellyLast + 1;
        }

        int mostBelly() {
            return burster == NONE ? MOST_STRENGTH : Math.min(MOST_STRENGTH, bellyTaken);
        }

        int answer(Party p, int what) {
            if (what >= 10 && what < 10 + p.parts) {
                return left[what - 10];
            }
            switch (what) {
                case 0:
                    return who;
                case 1:
                    return made;
                case 2:
                    return way;
                case 3:
                    return raise;
                case 4:
                    return burster;
                case 5:
                    return isCut ? 1 : 0;
                case 6:
                    return gone;
                case 7:
                    return latest;
                case 8:
                    return latestPart;
                default:
                    return NO_SUCH;
            }
        }

        int answerOf(int child, int what) {
            if (child < 0 || child >= MOST_CHILDREN) {
                return NO_SUCH;
            }
            if (what == 3) {
                return took[child];
            }
            return what >= 0 && what < 3 ? blowsOf[what * MOST_CHILDREN + child] : NO_SUCH;
        }
    }

    /** Where the donkey hangs, by CLUES. */
    private static final class Guess {
        final long[] weight = new long[WAYS];
        long all;

        /** The weights by all CLUES but one (NONE: by all). */
        void weighs(Party p, Clues c, int without) {
            all = 0;
            for (int w = 0; w < WAYS; w++) {
                weight[w] = p.turned[w];
                for (int k = 0; k < c.lines.size; k++) {
                    if (k != without) {
                        weight[w] *= timesBy(c, k, w);
                    }
                }
                all += weight[w];
            }
        }

        private static int timesBy(Clues c, int k, int w) {
            int kind = c.lines.kind[k] + SAYS;
            int told = c.lines.second[k];
            int far = farOf(told, w);
            switch (kind) {
                case SAYS:
                    return timesBySays(c, c.lines.first[k], far);
                case AIR:
                    return far >= 2 ? 1 : 0;
                case GRAZE:
                    return far == 1 ? 1 : 0;
                default:
                    return far == 0 ? 1 : 0;
            }
        }

        private static int timesBySays(Clues c, int who, int far) {
            int truth = who >= 0 && who < MOST_CHILDREN ? c.truth[who] : 0;
            return far == 0 ? 7 * truth : 10 - truth;
        }

        /** The weights of both WAYS next to one. */
        long beside(int way) {
            return weight[(way + 1) & 7] + weight[(way + 7) & 7];
        }

        /** AIM by all CLUES but one. */
        int bestWay(Party p, Clues c, int without) {
            weighs(p, c, without);
            if (all == 0) {
                return NONE;
            }
            int best = 0;
            for (int w = 1; w < WAYS; w++) {
                if (2 * weight[w] + beside(w) > 2 * weight[best] + beside(best)) {
                    best = w;
                }
            }
            return best;
        }

        int misled(Party p, Clues c) {
            int aimed = bestWay(p, c, NONE);
            int bits = 0;
            for (int k = 0; k < c.lines.size && aimed != NONE; k++) {
                if (bestWay(p, c, k) != aimed) {
                    bits |= 1 << k;
                }
            }
            return bits;
        }

        int contrary(Party p, Clues c) {
            weighs(p, c, NONE);
            boolean none = all == 0;
            int bits = 0;
            for (int k = 0; k < c.lines.size && none; k++) {
                weighs(p, c, k);
                if (all > 0) {
                    bits |= 1 << k;
                }
            }
            return bits;
        }
    }

    /** Who BURSTS it, and how likely: weights by tens to the number of all blows. */
    private static final class Odds {
        /** Above what all blows together can take. */
        private static final int ENOUGH = MOST_BLOWS * 9 + 1;
        private static final int STRENGTHS = MOST_STRENGTH + 1;
        /** Of MOST_TO_ORDER children. */
        private static final int MOST_ORDERS = 120;

        private final int[] row = new int[MOST_CHILDREN];
        // By STRENGTH left: those of whom one that hits is still lifted, and the others.
        private final long[] fresh = new long[ENOUGH + 1];
        private final long[] after = new long[ENOUGH + 1];
        // By CHILDREN (bits) that have struck: the weight of its not having BURST.
        private final long[] holding = new long[1 << MOST_TO_ORDER];
        // By blows made and STRENGTH left: the best GOOD.
        private final long[] best = new long[(MOST_BLOWS + 1) * STRENGTHS];

        long ofAll(Party p) {
            return tens(p.children * p.blows);
        }

        private static long tens(int n) {
            return n >= 0 && n < TENS.length ? TENS[n] : 0;
        }

        /** Takes an ORDER as the row of CHILDREN; false if it has not each of them once. */
        boolean ordersBy(Party p, int order) {
            int rest = order;
            int seen = 0;
            for (int k = p.children - 1; k >= 0; k--) {
                int child = order == NONE ? k : rest & 7;
                rest >>>= 3;
                row[k] = child;
                seen |= 1 << child;
            }
            return seen == (1 << p.children) - 1 && (order == NONE || rest == 0);
        }

        /** The weight of what is asked, by the row; NONE for another what. */
        long ofWhat(Party p, int layers, int what) {
            int last = p.children - 1;
            long cut = holds(p, layers, (1 << p.children) - 1);
            if (what == 1) {
                return cut;
            }
            if (what == 0) {
                return holds(p, layers, bitsAhead(last));
            }
            if (what == 2) {
                return holds(p, layers, bitsAhead(last)) - cut;
            }
            if (what < 10 || what >= 10 + p.children) {
                return NONE;
            }
            int ahead = bitsAheadOf(p, what - 10);
            return holds(p, layers, ahead) - holds(p, layers, ahead | 1 << what - 10);
        }

        /** CHILDREN (bits) in the row ahead of the k-th one. */
        private int bitsAhead(int k) {
            int bits = 0;
            for (int i = 0; i < k && i < MOST_CHILDREN; i++) {
                bits |= 1 << row[i];
            }
            return bits;
        }

        private int bitsAheadOf(Party p, int child) {
            int bits = 0;
            for (int i = 0; i < p.children && row[i] != child; i++) {
                bits |= 1 << row[i];
            }
            return bits;
        }

        /** The weight of its not having BURST by these CHILDREN's blows: in whatever order, they take as much. */
        private long holds(Party p, int layers, int bits) {
            int most = Math.min(p.strength[BELLY] * layers, ENOUGH);
            for (int s = 0; s <= most; s++) {
                fresh[s] = 0;
                after[s] = 0;
            }
            after[most] = 1;
            int still = p.children;
            for (int c = 0; c < p.children; c++) {
                if ((bits >>> c & 1) == 1) {
                    strikeAll(p, c, most);
                    still--;
                }
            }
            long sum = 0;
            for (int s = 1; s <= most; s++) {
                sum += after[s];
            }
            return sum * tens(still * p.blows);
        }

        /** All blows of a child. */
        private void strikeAll(Party p, int child, int most) {
            if (p.age[child] >= p.lift) {
                for (int s = 1; s <= most; s++) {
                    fresh[s] = after[s];
                    after[s] = 0;
                }
            }
            for (int b = 0; b < p.blows; b++) {
                strikeOnce(p.hits[child], p.force[child], most);
            }
            for (int s = 1; s <= most; s++) {
                after[s] += fresh[s];
                fresh[s] = 0;
            }
        }

        private void strikeOnce(int hits, int force, int most) {
            int misses = 10 - hits;
            // From the least on: what comes down comes to a place that is done.
            for (int s = 1; s <= most; s++) {
                long was = after[s];
                after[s] = was * misses + fresh[s] * hits;
                fresh[s] *= misses;
                if (s > force) {
                    after[s - force] += was * hits;
                }
            }
        }

        /** FAIR, as an ORDER. */
        int fairest(Party p) {
            for (int bits = 0; bits < 1 << p.children && bits < holding.length; bits++) {
                holding[bits] = holds(p, 1, bits);
            }
            ordersBy(p, NONE);
            int fair = orderOfRow(p);
            long least = gapOfRow(p);
            for (int k = 1; k < MOST_ORDERS && toNextRow(p); k++) {
                long gap = gapOfRow(p);
                if (gap < least) {
                    fair = orderOfRow(p);
                    least = gap;
                }
            }
            return fair;
        }

        private int orderOfRow(Party p) {
            int order = 0;
            for (int k = 0; k < p.children; k++) {
                order = order * 8 + row[k];
            }
            return order;
        }

        /** The greatest CHANCE by the row less the least one. */
        private long gapOfRow(Party p) {
            long greatest = 0;
            long least = ofAll(p);
            int bits = 0;
            for (int k = 0; k < p.children; k++) {
                int more = bits | 1 << row[k];
                if (more < holding.length) {
                    long his = holding[bits] - holding[more];
                    greatest = Math.max(greatest, his);
                    least = Math.min(least, his);
                    bits = more;
                }
            }
            return greatest - least;
        }

        /** The row becomes the next one by rows; false if it is the last one. */
        private boolean toNextRow(Party p) {
            int at = p.children - 2;
            while (at >= 0 && row[at] > row[at + 1]) {
                at--;
            }
            if (at < 0) {
                return false;
            }
            int other = p.children - 1;
            while (other > at && row[other] < row[at]) {
                other--;
            }
            swapInRow(at, other);
            for (int a = at + 1, b = p.children - 1; a < b; a++, b--) {
                swapInRow(a, b);
            }
            return true;
        }

        private void swapInRow(int a, int b) {
            if (a >= 0 && a < MOST_CHILDREN && b >= 0 && b < MOST_CHILDREN) {
                int was = row[a];
                row[a] = row[b];
                row[b] = was;
            }
        }

        int bestLayers(Party p) {
            int bits = (1 << p.children) - 1;
            int ahead = (1 << p.children - 1) - 1;
            int thickest = 1;
            long most = NONE;
            for (int layers = 1; layers <= MOST_LAYERS; layers++) {
                long good = holds(p, layers, ahead) - holds(p, layers, bits);
                if (good > most) {
                    thickest = layers;
                    most = good;
                }
            }
            return thickest;
        }

        /** The best GOOD of all that may be, from the last blow back. */
        void knowsAll(Party p) {
            int all = p.children * p.blows;
            for (int s = 0; s < STRENGTHS; s++) {
                setBest(all, s, 0);
            }
            int k = all - 1;
            for (int child = p.children - 1; child >= 0; child--) {
                for (int b = 0; b < p.blows; b++) {
                    weighLifting(p, child, k);
                    k--;
                }
            }
        }

        /** The best GOOD ahead of a child's blow that is the k-th one of all. */
        private void weighLifting(Party p, int child, int k) {
            int hits = p.hits[child];
            for (int s = 1; s < STRENGTHS; s++) {
                long lifted = bestAt(k + 1, s);
                long better = Math.max(lifted, ifNotLifted(p, child, k, s));
                setBest(k, s, (10 - hits) * lifted + hits * better);
            }
        }

        long bestAt(int k, int s) {
            return isInTable(k, s) ? best[k * STRENGTHS + s] : 0;
        }

        private void setBest(int k, int s, long good) {
            if (isInTable(k, s)) {
                best[k * STRENGTHS + s] = good;
            }
        }

        private static boolean isInTable(int k, int s) {
            return k >= 0 && k <= MOST_BLOWS && s >= 0 && s < STRENGTHS;
        }

        private long ifNotLifted(Party p, int child, int k, int s) {
            if (s > p.force[child]) {
                return bestAt(k + 1, s - p.force[child]);
            }
            // It BURSTS: all is won by the last child's blow, and lost by another one's.
            return child == p.children - 1 ? tens(p.children * p.blows - k - 1) : 0;
        }

        /** Whether UNCLE LIFTS at blow b of a child. */
        boolean isBetterLifted(Party p, int child, int b, int s) {
            int k = child * p.blows + b;
            return p.has(child) && bestAt(k + 1, s) > ifNotLifted(p, child, k, s);
        }
    }

    /** Where the sweets fly: CELLS, who PICKS them, BAGS. */
    private static final class Yard {
        final int[] bags = new int[MOST_CHILDREN];
        private final int[] queue = new int[MOST_CHILDREN];

        int whoPicks(Party p, int striker, int cell) {
            return whoPicksIf(p, striker, cell, NONE, 0);
        }

        /** Who PICKS a CELL if one child (NONE: nobody) stood at another place. */
        private int whoPicksIf(Party p, int striker, int cell, int moved, int place) {
            int best = NONE;
            int fewest = 0;
            for (int c = 0; c < p.children; c++) {
                int steps = stepsBetween(c == moved ? place : p.spot[c], cell);
                if (c == striker) {
                    steps = stepsBetween(MIDDLE, cell) + p.bandage;
                }
                if (best == NONE || steps < fewest || steps == fewest && p.quick[c] > p.quick[best]) {
                    best = c;
                    fewest = steps;
                }
            }
            return best;
        }

        int weightOfAll(Party p) {
            int sum = 0;
            for (int cell = 0; cell < CELLS; cell++) {
                sum += p.weightOf(cell);
            }
            return sum;
        }

        int shareOf(Party p, int striker, int child) {
            return shareIf(p, striker, child, NONE, 0);
        }

        private int shareIf(Party p, int striker, int child, int moved, int place) {
            int sum = 0;
            for (int cell = 0; cell < CELLS; cell++) {
                if (whoPicksIf(p, striker, cell, moved, place) == child) {
                    sum += p.weightOf(cell);
                }
            }
            return sum;
        }

        int bestStand(Party p, int striker, int child) {
            int best = NONE;
            int most = 0;
            for (int place = 0; place < CELLS; place++) {
                if (ringOf(place) > p.stick) {
                    int his = shareIf(p, striker, child, child, place);
                    if (best == NONE || his > most) {
                        best = place;
                        most = his;
                    }
                }
            }
            return best;
        }

        void emptyBags() {
            for (int c = 0; c < MOST_CHILDREN; c++) {
                bags[c] = 0;
            }
        }

        void addToBag(int child, int sweets) {
            if (child >= 0 && child < MOST_CHILDREN) {
                bags[child] += sweets;
            }
        }

        void fillBags(Party p, Lines ground, int striker, int law) {
            emptyBags();
            if (law == EVEN || law == SMALL) {
                queueUp(p, law == SMALL);
                dealOut(p, ground.sumOfSeconds());
                return;
            }
            for (int k = 0; k < ground.size; k++) {
                addToBag(whoPicks(p, striker, ground.first[k]), ground.second[k]);
            }
            if (law == THANKS && p.has(striker)) {
                giveThanks(p, striker);
            }
        }

        /** The CHILDREN by numbers, or by AGE and then by numbers. */
        private void queueUp(Party p, boolean byAge) {
            for (int c = 0; c < p.children; c++) {
                int at = c;
                while (byAge && at > 0 && p.age[queue[at - 1]] > p.age[c]) {
                    queue[at] = queue[at - 1];
                    at--;
                }
                queue[at] = c;
            }
        }

        private void dealOut(Party p, int sweets) {
            for (int k = 0; k < sweets && p.children > 0; k++) {
                addToBag(queue[k % p.children], 1);
            }
        }

        private void giveThanks(Party p, int striker) {
            for (int c = 0; c < p.children; c++) {
                if (c != striker && bags[c] > 0 && p.tieOf(c, striker) == FRIEND_TIE) {
                    bags[c]--;
                    bags[striker]++;
                }
            }
            for (int c = 0; c < p.children; c++) {
                if (c != striker && bags[striker] > 0 && p.tieOf(c, striker) == FOE_TIE) {
                    bags[striker]--;
                    bags[c]++;
                }
            }
        }

        int uneven(Party p) {
            int greatest = bags[0];
            int least = bags[0];
            for (int c = 1; c < p.children; c++) {
                greatest = Math.max(greatest, bags[c]);
                least = Math.min(least, bags[c]);
            }
            return greatest - least;
        }

        int mostJust(Party p, Lines ground, int striker) {
            int best = NONE;
            int fewest = 0;
            for (int law = 0; law <= SMALL; law++) {
                fillBags(p, ground, striker, law);
                int uneven = uneven(p);
                if (best == NONE || uneven < fewest) {
                    best = law;
                    fewest = uneven;
                }
            }
            return best;
        }
    }

    /** DRAWN by a SEED. */
    private static final class Afternoon {
        private int x;
        private int burster;
        private int made;
        private int left;

        /** The BAGS are those of the yard then. */
        void passes(Party p, int seed, Yard yard) {
            x = seed;
            burster = NONE;
            made = 0;
            left = p.strength[BELLY];
            for (int c = 0; c < p.children && burster == NONE; c++) {
                goes(p, c);
            }
            yard.emptyBags();
            int all = yard.weightOfAll(p);
            for (int k = 0; k < p.sweets && all > 0; k++) {
                int cell = fallsOn(p, below(all));
                yard.addToBag(yard.whoPicks(p, burster, cell), 1);
            }
        }

        private int below(int n) {
            x = x * 1103515245 + 12345;
            return n > 0 ? (x >>> 16) % n : 0;
        }

        private void goes(Party p, int child) {
            boolean isLifted = p.age[child] >= p.lift;
            for (int b = 0; b < p.blows && burster == NONE; b++) {
                made++;
                if (below(10) < p.hits[child]) {
                    left = isLifted ? left : Math.max(0, left - p.force[child]);
                    isLifted = false;
                }
                if (left == 0) {
                    burster = child;
                }
            }
        }

        private static int fallsOn(Party p, int number) {
            int sum = 0;
            for (int cell = 0; cell < CELLS; cell++) {
                sum += p.weightOf(cell);
                if (sum > number) {
                    return cell;
                }
            }
            return CELLS - 1;
        }

        int answer(int what) {
            switch (what) {
                case 0:
                    return burster;
                case 1:
                    return made;
                case 2:
                    return left;
                default:
                    return NO_SUCH;
            }
        }
    }
}
