/** A postman who ends the letters that he carries: rows, texts, posts, deeds, and what may be asked of them. */
public final class LetterEnds {
    public static final int BAD = -1, FULL = -2, FINDING = -3, STATE = -4, SPENT = -6, NONE = -9;

    private static final int NOTHING = 1, BEYOND = 2, UNLIKE = 3, NOUGHT = 4, SIZE = 5;
    private static final int ROWS = 6, TEXTS = 4, PLACES = 3;
    private static final int ROW_LONGEST = 40, TEXT_LONGEST = 60;
    private static final int MOST_HOUSES = 6, MOST_LETTERS = 6, MOST_DEEDS = 40;
    private static final int WARMEST = 9, GREATEST_BOND = 20, GREATEST_SUM = 54, DULL = 1, SUN = 2;
    private static final int MOST_PAIRS = 8, MOST_DAYS = 20, MOST_LOTS = 20, MOST_TURNS = 3;
    private static final int TWELFTHS = 12;
    private static final int COUNTS = 14, HOUSE_TELLS = 3, LETTER_TELLS = 5;
    private static final int BLANK = 32;
    private static final int TOLD = 1;
    private static final long LOT_FACTOR = 48271L, LOT_MODULUS = 2147483647L;

    private final Strip[] rows = new Strip[ROWS];
    private final Strip[] texts = new Strip[TEXTS];
    private final Road road = new Road();
    private final Reader reader = new Reader();
    private final Post now = new Post(road);
    private final Post aside = new Post(road);
    private final Post[] kept = new Post[PLACES];
    private final Orders orders = new Orders(road);
    private final Lifts lifts = new Lifts(road);
    private final Clues clues = new Clues();
    private final int[] found = new int[SIZE + 1];
    private int finding;
    private int asked;
    private long upper;
    private long lower = 1;

    public LetterEnds() {
        for (int r = 0; r < ROWS; r++) {
            rows[r] = new Strip(ROW_LONGEST);
        }
        for (int t = 0; t < TEXTS; t++) {
            texts[t] = new Strip(TEXT_LONGEST);
        }
        for (int k = 0; k < PLACES; k++) {
            kept[k] = new Post(road);
        }
    }

    // ---- 1 rows, texts, posts

    public int row(int r, int n) {
        if (!isRow(r) || n > ROW_LONGEST) {
            return BAD;
        }
        if (n < 0) {
            return refuse(SIZE);
        }
        rows[r].lieAnew(n, 0);
        return n;
    }

    public int lay(int r, int i, int v) {
        if (!isRow(r)) {
            return BAD;
        }
        Strip row = rows[r];
        if (!row.isThere()) {
            return refuse(NOTHING);
        }
        if (!row.has(i)) {
            return refuse(BEYOND);
        }
        int before = row.places[i];
        row.places[i] = v;
        return tell(before);
    }

    public int at(int r, int i) {
        if (!isRow(r)) {
            return BAD;
        }
        Strip row = rows[r];
        if (!row.isThere()) {
            return refuse(NOTHING);
        }
        if (!row.has(i)) {
            return refuse(BEYOND);
        }
        return tell(row.places[i]);
    }

    public int tear(int r) {
        if (!isRow(r)) {
            return BAD;
        }
        if (!rows[r].isThere()) {
            return refuse(NOTHING);
        }
        rows[r].goMissing();
        return 1;
    }

    public int copy(int r, int i, int to, int j, int n) {
        if (!isRow(r) || !isRow(to)) {
            return BAD;
        }
        if (n < 0) {
            return refuse(SIZE);
        }
        Strip from = rows[r];
        Strip goal = rows[to];
        if (!from.isThere() || !goal.isThere()) {
            return refuse(NOTHING);
        }
        if (!from.hasSpan(i, n) || !goal.hasSpan(j, n)) {
            return refuse(BEYOND);
        }
        System.arraycopy(from.places, i, goal.places, j, n);
        return 1;
    }

    public int mean(int r) {
        if (!isRow(r)) {
            return BAD;
        }
        Strip row = rows[r];
        if (!row.isThere()) {
            return refuse(NOTHING);
        }
        if (row.size == 0) {
            return refuse(NOUGHT);
        }
        return tell((int) (row.sum() / row.size));
    }

    public int text(int t, int n) {
        if (!isText(t) || n > TEXT_LONGEST) {
            return BAD;
        }
        if (n < 0) {
            return refuse(SIZE);
        }
        texts[t].lieAnew(n, BLANK);
        return n;
    }

    public int put(int t, int i, int v) {
        if (!isText(t)) {
            return BAD;
        }
        Strip text = texts[t];
        if (!text.isThere()) {
            return refuse(NOTHING);
        }
        if (!text.has(i)) {
            return refuse(BEYOND);
        }
        int before = text.places[i];
        text.places[i] = (byte) v;
        return before + 1000;
    }

    public int fault(int t) {
        if (!isText(t)) {
            return BAD;
        }
        if (!texts[t].isThere()) {
            return refuse(NOTHING);
        }
        return reader.faultOf(texts[t]);
    }

    public int post(int t) {
        if (!isText(t)) {
            return BAD;
        }
        if (!texts[t].isThere()) {
            return refuse(NOTHING);
        }
        if (reader.faultOf(texts[t]) != NONE) {
            return STATE;
        }
        road.become(reader.draft);
        now.begin();
        for (Post one : kept) {
            one.there = false;
        }
        return road.letters;
    }

    public int house(int h, int what) {
        if (!isHouse(h) || !within(what, HOUSE_TELLS - 1)) {
            return BAD;
        }
        return tell(ofHouse(h, what));
    }

    public int letter(int l, int what) {
        if (!isLetter(l) || !within(what, LETTER_TELLS - 1)) {
            return BAD;
        }
        return tell(ofLetter(l, what));
    }

    public int mark(int l, int kind) {
        if (!isLetter(l) || kind <= Kind.LETTER || kind >= Kind.KINDS) {
            return BAD;
        }
        if (!Kind.isOf(road.kind[l], kind)) {
            return refuse(UNLIKE);
        }
        return Kind.markOf(kind, road.words[l], now.mood);
    }

    // ---- 2 deeds

    public int carry(int l) {
        if (!isLetter(l)) {
            return BAD;
        }
        if (now.wasCarried(l)) {
            return STATE;
        }
        if (now.spareDeeds() < 1) {
            return FULL;
        }
        now.perform(Post.CARRY, l);
        return now.ended[l];
    }

    public int bribe(int n) {
        if (n < 1 || n > WARMEST) {
            return BAD;
        }
        if (!isPosted() || now.mood == WARMEST) {
            return STATE;
        }
        if (now.spareDeeds() < 1) {
            return FULL;
        }
        now.perform(Post.BRIBE, n);
        return now.mood;
    }

    public int weather(int w) {
        if (!within(w, SUN)) {
            return BAD;
        }
        if (!isPosted() || now.weather == w) {
            return STATE;
        }
        if (now.spareDeeds() < 1) {
            return FULL;
        }
        int before = now.weather;
        now.perform(Post.WEATHER, w);
        return before;
    }

    public int day() {
        if (!isPosted()) {
            return STATE;
        }
        if (now.spareDeeds() < 1) {
            return FULL;
        }
        int carried = Integer.bitCount(now.carried);
        now.perform(Post.DAY, 0);
        return carried;
    }

    public int undo(int n) {
        if (!within(n, now.deeds)) {
            return BAD;
        }
        int undone = now.deeds - n;
        now.goBackTo(n);
        return undone;
    }

    public int keep(int k) {
        if (!isPlace(k)) {
            return BAD;
        }
        if (!isPosted()) {
            return STATE;
        }
        kept[k].become(now);
        return now.deeds;
    }

    public int on(int k) {
        if (!isPlace(k)) {
            return BAD;
        }
        if (!kept[k].there) {
            return refuse(NOTHING);
        }
        now.become(kept[k]);
        return now.deeds;
    }

    // ---- 3 how letters end (aside)

    public int ends(int l, int words, int mood) {
        if (!isLetter(l) || !within(words, WARMEST) || !within(mood, WARMEST)) {
            return BAD;
        }
        return Kind.warmth(road.kind[l], words, mood);
    }

    public int bond(int l) {
        if (!isLetter(l)) {
            return BAD;
        }
        int arriving = arrivingWith(l, 0);
        int warm = road.warmth(l, arriving);
        tell(road.moodBehind(l, arriving, warm));
        return Road.bondBehind(now.bonds[road.home[l]], warm);
    }

    public int least(int l, int v) {
        if (!isLetter(l) || !within(v, WARMEST)) {
            return BAD;
        }
        for (int n = 0; n <= WARMEST; n++) {
            if (road.warmth(l, arrivingWith(l, n)) >= v) {
                return n;
            }
        }
        return NONE;
    }

    // ---- 4 rounds (aside, from now on)

    public int round(int set, int r) {
        if (!isRow(r) || (set & ~road.allLetters()) != 0) {
            return BAD;
        }
        if ((set & now.carried) != 0) {
            return STATE;
        }
        int most = orders.warmest(now, set);
        rows[r].lieAs(orders.best, Integer.bitCount(set));
        return most;
    }

    public int plan(int h, int v, int r) {
        if (!isHouse(h) || !within(v, GREATEST_BOND) || !isRow(r)) {
            return BAD;
        }
        int fewest = orders.fewest(now, h, v);
        if (fewest != NONE) {
            rows[r].lieAs(orders.order, fewest);
        }
        return fewest;
    }

    public int rest(int h, int n, int r) {
        if (!isHouse(h) || !within(n, MOST_DAYS) || !isRow(r)) {
            return BAD;
        }
        Strip row = rows[r];
        int wrong = wrongLetters(row, 0);
        if (wrong != 0) {
            return refuse(wrong);
        }
        aside.become(now);
        for (int d = 0; d < n; d++) {
            aside.beginDay();
            for (int i = 0; i < row.size; i++) {
                aside.deliver(row.places[i]);
            }
        }
        return aside.bonds[h];
    }

    // ---- 5 by how it ended

    public int meant(int l, int r) {
        if (!isLetter(l) || !isRow(r)) {
            return BAD;
        }
        int wrong = wrongPairs(rows[r]);
        if (wrong != 0) {
            return refuse(wrong);
        }
        return Clues.wordsFor(road.kind[l], rows[r]);
    }

    public int kinds(int l, int r) {
        if (!isLetter(l) || !isRow(r)) {
            return BAD;
        }
        int wrong = wrongPairs(rows[r]);
        if (wrong != 0) {
            return refuse(wrong);
        }
        return Clues.kindsFor(road.words[l], rows[r]);
    }

    public int test(int l, int r) {
        if (!isLetter(l) || !isRow(r)) {
            return BAD;
        }
        int wrong = wrongPairs(rows[r]);
        if (wrong != 0) {
            return refuse(wrong);
        }
        int words = Clues.wordsFor(road.kind[l], rows[r]);
        if (words == 0) {
            return NONE;
        }
        int mood = clues.bestMood(road.kind[l], words);
        tell(clues.greatestPart(road.kind[l], words, mood));
        return mood;
    }

    // ---- 6 whose words

    public int sets(int v) {
        if (!within(v, GREATEST_SUM)) {
            return BAD;
        }
        if (!isPosted()) {
            return STATE;
        }
        int many = 0;
        int first = NONE;
        for (int set = 0; set <= road.allLetters(); set++) {
            if (road.wordsOf(set) == v) {
                first = many == 0 ? set : first;
                many++;
            }
        }
        tellPart(many, 1);
        return tell(first);
    }

    public int sure(int v) {
        if (!within(v, GREATEST_SUM)) {
            return BAD;
        }
        if (!isPosted()) {
            return STATE;
        }
        boolean any = false;
        int inEach = road.allLetters();
        int inNone = road.allLetters();
        for (int set = 0; set <= road.allLetters(); set++) {
            if (road.wordsOf(set) == v) {
                any = true;
                inEach &= set;
                inNone &= ~set;
            }
        }
        if (!any) {
            return refuse(NOUGHT);
        }
        tell(inNone);
        return inEach;
    }

    // ---- 7 by turns

    public int duel(int n) {
        if (!within(n, MOST_TURNS)) {
            return BAD;
        }
        if (!isPosted()) {
            return STATE;
        }
        return tell(orders.byTurns(now, 2 * n));
    }

    // ---- 8 chances, lots

    public int odds(int r, int v, int p) {
        if (!isRow(r) || !within(v, GREATEST_SUM) || !within(p, TWELFTHS)) {
            return BAD;
        }
        int wrong = wrongLetters(rows[r], now.carried);
        if (wrong != 0) {
            return refuse(wrong);
        }
        lifts.follow(now, rows[r], v, p);
        return tellPart(lifts.fitting, lifts.all);
    }

    public int mid(int r, int p) {
        if (!isRow(r) || !within(p, TWELFTHS)) {
            return BAD;
        }
        int wrong = wrongLetters(rows[r], now.carried);
        if (wrong != 0) {
            return refuse(wrong);
        }
        lifts.follow(now, rows[r], 0, p);
        return tellPart(lifts.warmth, lifts.all);
    }

    public int lots(int n, int seed) {
        if (n < 1 || n > MOST_LOTS || seed < 1 || seed >= LOT_MODULUS) {
            return BAD;
        }
        if (!isPosted()) {
            return STATE;
        }
        if (now.spareDeeds() < n) {
            return FULL;
        }
        long lot = seed;
        for (int i = 0; i < n; i++) {
            lot = lot * LOT_FACTOR % LOT_MODULUS;
            performLot((int) lot);
        }
        return now.allBonds();
    }

    // ---- 9 what is told

    public int asked() {
        return asked;
    }

    public long upper() {
        return upper;
    }

    public long lower() {
        return lower;
    }

    public int count(int what) {
        if (!within(what, COUNTS - 1)) {
            return BAD;
        }
        return countOf(what);
    }

    public int finding() {
        return finding;
    }

    public int findings(int f) {
        if (f < NOTHING || f > SIZE) {
            return BAD;
        }
        return found[f];
    }

    public long digest() {
        long h = 17;
        for (int what = 0; what < COUNTS; what++) {
            h = 31 * h + countOf(what);
        }
        for (int i = 0; i < road.houses; i++) {
            for (int what = 0; what < HOUSE_TELLS; what++) {
                h = 31 * h + ofHouse(i, what);
            }
        }
        for (int i = 0; i < road.letters; i++) {
            for (int what = 0; what < LETTER_TELLS; what++) {
                h = 31 * h + ofLetter(i, what);
            }
        }
        for (Post one : kept) {
            h = 31 * h + (one.there ? one.deeds : -1);
        }
        for (Strip row : rows) {
            h = row.mixedInto(h);
        }
        for (Strip text : texts) {
            h = text.mixedInto(h);
        }
        return h;
    }

    // ---- what the calls share

    private static boolean within(int v, int most) {
        return v >= 0 && v <= most;
    }

    private static boolean isRow(int r) {
        return within(r, ROWS - 1);
    }

    private static boolean isText(int t) {
        return within(t, TEXTS - 1);
    }

    private static boolean isPlace(int k) {
        return within(k, PLACES - 1);
    }

    private boolean isHouse(int h) {
        return within(h, road.houses - 1);
    }

    private boolean isLetter(int l) {
        return within(l, road.letters - 1);
    }

    private boolean isPosted() {
        return road.letters > 0;
    }

    private int refuse(int f) {
        finding = f;
        found[f]++;
        return FINDING;
    }

    private int tell(int v) {
        asked = v;
        return TOLD;
    }

    private int tellPart(long up, long low) {
        long common = commonDivisor(up, low);
        if (common > 0) {
            upper = up / common;
            lower = low / common;
        }
        return TOLD;
    }

    private static long commonDivisor(long a, long b) {
        long x = a;
        long y = b;
        // Euclid's steps on numbers of 63 bits are fewer than 100
        for (int step = 0; step < 100 && y != 0; step++) {
            long left = x % y;
            x = y;
            y = left;
        }
        return x;
    }

    /** The FINDING that stands against a ROW as a list of unlike LETTERS, none of a barred set; 0: none does. */
    private int wrongLetters(Strip row, int barred) {
        if (!row.isThere()) {
            return NOTHING;
        }
        if (row.size > MOST_LETTERS) {
            return SIZE;
        }
        int seen = barred;
        for (int i = 0; i < row.size; i++) {
            int l = row.places[i];
            if (!isLetter(l) || (seen >> l & 1) != 0) {
                return UNLIKE;
            }
            seen |= 1 << l;
        }
        return 0;
    }

    /** The FINDING that stands against a ROW as pairs of a MOOD and how warm it ENDED; 0: none does. */
    private static int wrongPairs(Strip row) {
        if (!row.isThere()) {
            return NOTHING;
        }
        if (row.size > 2 * MOST_PAIRS || row.size % 2 != 0) {
            return SIZE;
        }
        for (int i = 0; i < row.size; i++) {
            if (!within(row.places[i], WARMEST)) {
                return UNLIKE;
            }
        }
        return 0;
    }

    private int arrivingWith(int l, int bribe) {
        return road.moodAtDoor(l, Road.moodWithin(now.mood + bribe), now.stand, now.weather);
    }

    private void performLot(int lot) {
        int choice = lot / 8 % 8;
        int more = lot / 64;
        if (choice == 7) {
            now.perform(Post.DAY, 0);
        } else if (choice == 6) {
            now.perform(Post.WEATHER, more % 3);
        } else if (choice == 5) {
            now.perform(Post.BRIBE, 1 + more % 9);
        } else if (road.letters > 0) {
            now.perform(Post.CARRY, lot % road.letters);
        }
    }

    private int ofHouse(int h, int what) {
        switch (what) {
            case 0: return now.bonds[h];
            case 1: return road.lettersTo(h);
            default: return Math.abs(h - now.stand);
        }
    }

    private int ofLetter(int l, int what) {
        switch (what) {
            case 0: return road.kind[l];
            case 1: return road.home[l];
            case 2: return road.words[l];
            case 3: return now.wasCarried(l) ? now.ended[l] : NONE;
            default: return road.warmth(l, arrivingWith(l, 0));
        }
    }

    private int countOf(int what) {
        switch (what) {
            case 0: return road.houses;
            case 1: return road.letters;
            case 2: return now.days;
            case 3: return now.deeds;
            case 4: return now.mood;
            case 5: return now.weather;
            case 6: return now.stand;
            case 7: return now.carried;
            case 8: return now.allBonds();
            case 9: return road.lettersOf(Kind.TELEGRAM);
            case 10: return road.lettersOf(Kind.LOVE);
            case 11: return howManyThere(rows);
            case 12: return howManyThere(texts);
            default: return howManyKept();
        }
    }

    private static int howManyThere(Strip[] strips) {
        int many = 0;
        for (Strip one : strips) {
            many += one.isThere() ? 1 : 0;
        }
        return many;
    }

    private int howManyKept() {
        int many = 0;
        for (Post one : kept) {
            many += one.there ? 1 : 0;
        }
        return many;
    }

    /** A ROW or a TEXT: places of which the first so many are there, or a missing one. */
    private static final class Strip {
        private static final int MISSING = -1;

        final int[] places;
        int size = MISSING;

        Strip(int longest) {
            places = new int[longest];
        }

        boolean isThere() {
            return size != MISSING;
        }

        boolean has(int i) {
            return i >= 0 && i < size;
        }

        boolean hasSpan(int i, int n) {
            // i + n could pass the greatest int
            return i >= 0 && i <= size && n >= 0 && n <= size - i;
        }

        void lieAnew(int n, int v) {
            if (n < 0 || n > places.length) {
                return;
            }
            size = n;
            for (int i = 0; i < n; i++) {
                places[i] = v;
            }
        }

        void lieAs(int[] values, int n) {
            if (n < 0 || n > values.length || n > places.length) {
                return;
            }
            size = n;
            System.arraycopy(values, 0, places, 0, n);
        }

        void goMissing() {
            size = MISSING;
        }

        long sum() {
            long all = 0;
            for (int i = 0; i < size; i++) {
                all += places[i];
            }
            return all;
        }

        long mixedInto(long before) {
            long h = 31 * before + size;
            for (int i = 0; i < size; i++) {
                h = 31 * h + places[i];
            }
            return h;
        }
    }

    /** What the KINDS of LETTERS have of their own. */
    private static final class Kind {
        static final int LETTER = 0, TELEGRAM = 1, BILL = 2, LOVE = 3, BLACK = 4, FRENCH = 5, KINDS = 6;

        private static final int MIDDLE = 5;
        private static final char[] SIGNS = {'l', 't', 'b', 'v', 'k', 'f'};
        private static final int[] PARENTS = {NONE, LETTER, LETTER, LETTER, TELEGRAM, LOVE};

        static int bySign(int sign) {
            for (int kind = 0; kind < KINDS; kind++) {
                if (SIGNS[kind] == sign) {
                    return kind;
                }
            }
            return NONE;
        }

        static boolean isOf(int kind, int wanted) {
            int one = kind;
            for (int step = 0; step < KINDS && one >= 0 && one < KINDS; step++) {
                if (one == wanted) {
                    return true;
                }
                one = PARENTS[one];
            }
            return false;
        }

        static int warmth(int kind, int words, int mood) {
            switch (kind) {
                case TELEGRAM: return words;
                case BILL: return Math.max(MIDDLE, (words + mood) / 2);
                case LOVE:
                case FRENCH: return Math.min(WARMEST, words + mood);
                case BLACK: return Math.max(MIDDLE, words);
                default: return (words + mood) / 2;
            }
        }

        static int turnBy(int kind, int warm) {
            if (kind == FRENCH) {
                return 0;
            }
            return warm >= 6 ? 1 : warm <= 3 ? -1 : 0;
        }

        static int markOf(int kind, int words, int mood) {
            switch (kind) {
                case TELEGRAM: return Math.abs(mood - words);
                case BILL: return warmth(BILL, words, mood) - warmth(LETTER, words, mood);
                case LOVE: return WARMEST - words;
                case BLACK: return warmth(BLACK, words, mood) - words;
                default: return warmth(FRENCH, words, WARMEST - mood);
            }
        }
    }

    /** What a TEXT says: the HOUSES and LETTERS, and how all is at first. */
    private static final class Road {
        final int[] firstBonds = new int[MOST_HOUSES];
        final int[] kind = new int[MOST_LETTERS];
        final int[] home = new int[MOST_LETTERS];
        final int[] words = new int[MOST_LETTERS];
        int houses;
        int letters;
        int firstMood;
        int firstWeather;

        void become(Road other) {
            houses = other.houses;
            letters = other.letters;
            firstMood = other.firstMood;
            firstWeather = other.firstWeather;
            System.arraycopy(other.firstBonds, 0, firstBonds, 0, MOST_HOUSES);
            System.arraycopy(other.kind, 0, kind, 0, MOST_LETTERS);
            System.arraycopy(other.home, 0, home, 0, MOST_LETTERS);
            System.arraycopy(other.words, 0, words, 0, MOST_LETTERS);
        }

        int allLetters() {
            return (1 << letters) - 1;
        }

        int lettersTo(int h) {
            int set = 0;
            for (int l = 0; l < letters; l++) {
                if (home[l] == h) {
                    set |= 1 << l;
                }
            }
            return set;
        }

        int lettersOf(int wanted) {
            int many = 0;
            for (int l = 0; l < letters; l++) {
                many += Kind.isOf(kind[l], wanted) ? 1 : 0;
            }
            return many;
        }

        int wordsOf(int set) {
            int sum = 0;
            for (int l = 0; l < letters; l++) {
                if ((set >> l & 1) != 0) {
                    sum += words[l];
                }
            }
            return sum;
        }

        int moodAtDoor(int l, int mood, int stand, int weather) {
            return moodWithin(mood + Math.abs(home[l] - stand) * (weather - DULL));
        }

        int warmth(int l, int mood) {
            return Kind.warmth(kind[l], words[l], mood);
        }

        int moodBehind(int l, int mood, int warm) {
            return moodWithin(mood + Kind.turnBy(kind[l], warm));
        }

        static int moodWithin(int mood) {
            return Math.max(0, Math.min(WARMEST, mood));
        }

        static int bondBehind(int bond, int warm) {
            return Math.max(0, Math.min(GREATEST_BOND, bond + warm - 5));
        }
    }

    /** Reads a TEXT to a draft of a Road, up to the first FAULT. */
    private static final class Reader {
        private static final int ITEM = 3;
        private static final int NO_FIGURE = -1;

        final Road draft = new Road();

        int faultOf(Strip text) {
            draft.houses = 0;
            draft.letters = 0;
            boolean opened = false;
            int i = 0;
            while (i < text.size) {
                if (text.places[i] == BLANK) {
                    i++;
                    continue;
                }
                int fault = opened ? itemFault(text, i) : postmanFault(text, i);
                if (fault != NONE) {
                    return fault;
                }
                opened = true;
                i += ITEM;
            }
            return draft.letters > 0 ? NONE : text.size;
        }

        /** A sign that is due behind the end is missing at the TEXT's size: its place tells both faults. */
        private static int figureAt(Strip text, int i) {
            if (!text.has(i) || text.places[i] < '0' || text.places[i] > '9') {
                return NO_FIGURE;
            }
            return text.places[i] - '0';
        }

        private int postmanFault(Strip text, int i) {
            int mood = figureAt(text, i + 1);
            int weather = figureAt(text, i + 2);
            if (text.places[i] != 'p') {
                return i;
            }
            if (mood == NO_FIGURE) {
                return i + 1;
            }
            if (weather == NO_FIGURE || weather > SUN) {
                return i + 2;
            }
            draft.firstMood = mood;
            draft.firstWeather = weather;
            return NONE;
        }

        private int itemFault(Strip text, int i) {
            return text.places[i] == 'h' ? houseFault(text, i) : letterFault(text, i);
        }

        private int houseFault(Strip text, int i) {
            int tens = figureAt(text, i + 1);
            int ones = figureAt(text, i + 2);
            if (draft.letters > 0 || draft.houses >= MOST_HOUSES) {
                return i;
            }
            if (tens == NO_FIGURE) {
                return i + 1;
            }
            if (ones == NO_FIGURE) {
                return i + 2;
            }
            if (10 * tens + ones > GREATEST_BOND) {
                return i + 1;
            }
            draft.firstBonds[draft.houses] = 10 * tens + ones;
            draft.houses++;
            return NONE;
        }

        private int letterFault(Strip text, int i) {
            int kind = Kind.bySign(text.places[i]);
            int home = figureAt(text, i + 1);
            int words = figureAt(text, i + 2);
            if (kind == NONE || draft.houses == 0 || draft.letters >= MOST_LETTERS) {
                return i;
            }
            if (home == NO_FIGURE || home >= draft.houses) {
                return i + 1;
            }
            if (words == NO_FIGURE) {
                return i + 2;
            }
            draft.kind[draft.letters] = kind;
            draft.home[draft.letters] = home;
            draft.words[draft.letters] = words;
            draft.letters++;
            return NONE;
        }
    }

    /** How a POST stands, with the DEEDS that brought it there. */
    private static final class Post {
        static final int CARRY = 0, BRIBE = 1, WEATHER = 2, DAY = 3;

        final Road road;
        final int[] bonds = new int[MOST_HOUSES];
        final int[] ended = new int[MOST_LETTERS];
        final int[] deedKind = new int[MOST_DEEDS];
        final int[] deedNumber = new int[MOST_DEEDS];
        boolean there;
        int deeds;
        int days;
        int mood;
        int weather;
        int stand;
        int carried;

        Post(Road road) {
            this.road = road;
        }

        void begin() {
            there = true;
            deeds = 0;
            days = 0;
            mood = road.firstMood;
            weather = road.firstWeather;
            stand = 0;
            carried = 0;
            System.arraycopy(road.firstBonds, 0, bonds, 0, MOST_HOUSES);
        }

        void become(Post other) {
            there = other.there;
            deeds = other.deeds;
            days = other.days;
            mood = other.mood;
            weather = other.weather;
            stand = other.stand;
            carried = other.carried;
            System.arraycopy(other.bonds, 0, bonds, 0, MOST_HOUSES);
            System.arraycopy(other.ended, 0, ended, 0, MOST_LETTERS);
            System.arraycopy(other.deedKind, 0, deedKind, 0, MOST_DEEDS);
            System.arraycopy(other.deedNumber, 0, deedNumber, 0, MOST_DEEDS);
        }

        int spareDeeds() {
            return MOST_DEEDS - deeds;
        }

        boolean wasCarried(int l) {
            return (carried >> l & 1) != 0;
        }

        int allBonds() {
            int sum = 0;
            for (int h = 0; h < road.houses; h++) {
                sum += bonds[h];
            }
            return sum;
        }

        void perform(int kind, int number) {
            if (spareDeeds() < 1) {
                return;
            }
            deedKind[deeds] = kind;
            deedNumber[deeds] = number;
            deeds++;
            switch (kind) {
                case CARRY:
                    deliver(number);
                    break;
                case BRIBE:
                    mood = Road.moodWithin(mood + number);
                    break;
                case WEATHER:
                    weather = number;
                    break;
                default:
                    days++;
                    beginDay();
                    break;
            }
        }

        /** Every POST of a TEXT begins alike, so the DEEDS that stay, done again from there, lead to it. */
        void goBackTo(int n) {
            if (n < 0 || n >= deeds) {
                return;
            }
            begin();
            for (int d = 0; d < n; d++) {
                perform(deedKind[d], deedNumber[d]);
            }
        }

        void beginDay() {
            stand = 0;
            carried = 0;
        }

        void deliver(int l) {
            if (wasCarried(l)) {
                return;
            }
            int h = road.home[l];
            mood = road.moodAtDoor(l, mood, stand, weather);
            int warm = road.warmth(l, mood);
            stand = h;
            carried |= 1 << l;
            ended[l] = warm;
            bonds[h] = Road.bondBehind(bonds[h], warm);
            mood = road.moodBehind(l, mood, warm);
        }
    }

    /** The orders in which LETTERS can be CARRIED from now on, tried with the first LETTERS first. */
    private static final class Orders {
        final Road road;
        final int[] order = new int[MOST_LETTERS];
        final int[] best = new int[MOST_LETTERS];
        int weather;
        int most;
        int goalHouse;
        int goalBond;

        Orders(Road road) {
            this.road = road;
        }

        int warmest(Post from, int set) {
            weather = from.weather;
            most = NONE;
            tryWarmer(0, set, from.mood, from.stand, 0);
            return most;
        }

        private void tryWarmer(int depth, int set, int mood, int stand, int sum) {
            if (set == 0 || depth >= MOST_LETTERS) {
                if (sum > most) {
                    most = sum;
                    System.arraycopy(order, 0, best, 0, MOST_LETTERS);
                }
                return;
            }
            for (int l = 0; l < road.letters; l++) {
                if ((set >> l & 1) != 0) {
                    order[depth] = l;
                    int arriving = road.moodAtDoor(l, mood, stand, weather);
                    int warm = road.warmth(l, arriving);
                    int behind = road.moodBehind(l, arriving, warm);
                    tryWarmer(depth + 1, set & ~(1 << l), behind, road.home[l], sum + warm);
                }
            }
        }

        int fewest(Post from, int house, int bond) {
            weather = from.weather;
            goalHouse = house;
            goalBond = bond;
            int left = road.allLetters() & ~from.carried;
            int many = Integer.bitCount(left);
            for (int n = 0; n <= many; n++) {
                if (reaches(0, n, left, from.mood, from.stand, from.bonds[house])) {
                    return n;
                }
            }
            return NONE;
        }

        private boolean reaches(int depth, int n, int left, int mood, int stand, int bond) {
            if (depth >= n || depth >= MOST_LETTERS) {
                return bond >= goalBond;
            }
            for (int l = 0; l < road.letters; l++) {
                if ((left >> l & 1) != 0) {
                    order[depth] = l;
                    int home = road.home[l];
                    int arriving = road.moodAtDoor(l, mood, stand, weather);
                    int warm = road.warmth(l, arriving);
                    int behind = road.moodBehind(l, arriving, warm);
                    int then = home == goalHouse ? Road.bondBehind(bond, warm) : bond;
                    if (reaches(depth + 1, n, left & ~(1 << l), behind, home, then)) {
                        return true;
                    }
                }
            }
            return false;
        }

        int byTurns(Post from, int turns) {
            weather = from.weather;
            return settled(0, turns, road.allLetters() & ~from.carried, from.mood, from.stand);
        }

        /** How warm all from this turn on END; the one who wants much has the even turns. */
        private int settled(int turn, int turns, int left, int mood, int stand) {
            if (left == 0 || turn >= turns || turn >= MOST_LETTERS) {
                return 0;
            }
            boolean wantsMuch = turn % 2 == 0;
            int chosen = NONE;
            for (int l = 0; l < road.letters; l++) {
                if ((left >> l & 1) != 0) {
                    int arriving = road.moodAtDoor(l, mood, stand, weather);
                    int warm = road.warmth(l, arriving);
                    int behind = road.moodBehind(l, arriving, warm);
                    int sum = warm + settled(turn + 1, turns, left & ~(1 << l), behind, road.home[l]);
                    if (chosen == NONE || (wantsMuch ? sum > chosen : sum < chosen)) {
                        chosen = sum;
                    }
                }
            }
            return chosen;
        }
    }

    /** All ways in which his MOOD may lift ahead of LETTERS, weighed in parts of 12 for each LETTER. */
    private static final class Lifts {
        final Road road;
        final int[] letters = new int[MOST_LETTERS];
        int many;
        int weather;
        int wanted;
        int chance;
        long fitting;
        long warmth;
        long all;

        Lifts(Road road) {
            this.road = road;
        }

        void follow(Post from, Strip row, int v, int p) {
            many = Math.max(0, Math.min(row.size, MOST_LETTERS));
            System.arraycopy(row.places, 0, letters, 0, many);
            weather = from.weather;
            wanted = v;
            chance = p;
            fitting = 0;
            warmth = 0;
            all = 0;
            weigh(0, from.mood, from.stand, 0, 1);
        }

        private void weigh(int depth, int mood, int stand, int sum, long weight) {
            if (depth >= many || depth >= MOST_LETTERS) {
                fitting += sum >= wanted ? weight : 0;
                warmth += weight * sum;
                all += weight;
                return;
            }
            int l = letters[depth];
            for (int lift = 0; lift <= 1; lift++) {
                long part = weight * (lift == 1 ? chance : TWELFTHS - chance);
                int arriving = road.moodAtDoor(l, Road.moodWithin(mood + lift), stand, weather);
                int warm = road.warmth(l, arriving);
                int behind = road.moodBehind(l, arriving, warm);
                weigh(depth + 1, behind, road.home[l], sum + warm, part);
            }
        }
    }

    /** What can be told of a LETTER by pairs of his MOOD and as how warm it ENDED. */
    private static final class Clues {
        final int[] parts = new int[WARMEST + 1];

        private static boolean fits(int kind, int words, Strip pairs) {
            for (int i = 0; i + 1 < pairs.size; i += 2) {
                if (Kind.warmth(kind, words, pairs.places[i]) != pairs.places[i + 1]) {
                    return false;
                }
            }
            return true;
        }

        static int wordsFor(int kind, Strip pairs) {
            int set = 0;
            for (int words = 0; words <= WARMEST; words++) {
                if (fits(kind, words, pairs)) {
                    set |= 1 << words;
                }
            }
            return set;
        }

        static int kindsFor(int words, Strip pairs) {
            int set = 0;
            for (int kind = 0; kind < Kind.KINDS; kind++) {
                if (fits(kind, words, pairs)) {
                    set |= 1 << kind;
                }
            }
            return set;
        }

        int bestMood(int kind, int wordsSet) {
            int best = 0;
            int least = greatestPart(kind, wordsSet, 0);
            for (int mood = 1; mood <= WARMEST; mood++) {
                int part = greatestPart(kind, wordsSet, mood);
                if (part < least) {
                    least = part;
                    best = mood;
                }
            }
            return best;
        }

        int greatestPart(int kind, int wordsSet, int mood) {
            for (int warm = 0; warm <= WARMEST; warm++) {
                parts[warm] = 0;
            }
            int greatest = 0;
            for (int words = 0; words <= WARMEST; words++) {
                if ((wordsSet >> words & 1) != 0) {
                    int warm = Kind.warmth(kind, words, mood);
                    parts[warm]++;
                    greatest = Math.max(greatest, parts[warm]);
                }
            }
            return greatest;
        }
    }
}
