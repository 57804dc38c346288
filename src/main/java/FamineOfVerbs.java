/**
 * A land in which verbs have failed, told in a text; ../shared/DOC.md says what each call promises.
 * All rows are made with the object and used again, because all calls of a run share one room.
 */
public final class FamineOfVerbs {
    public static final int BAD = -1, NO = -2, FULL = -3, NONE = -4;

    private static final int MOST_VERBS = 6, MOST_NOUNS = 8, MOST_VILLAGES = 4, MOST_WORKS = 8;
    private static final int MOST_LETTERS = 200, MOST_STOCK = 60, MOST_FIRST_STOCK = 30;
    private static final int MOST_UNDONE = 8, MOST_KEPT = 2, MOST_HEARD = 6, HEARD_SEASONS = 9;
    private static final int FAR = 40, CARAVAN_SEASONS = 8, CARAVAN_BASE = 1000, MOST_WORTH = 9;
    private static final int SMALL = 1, SEED = 2, HOLY = 3;
    private static final int LOCUSTS_FROM = 40;
    private static final int OWN_NOUNS = 63, NOUNS_OF_ALL = 192;
    private static final String FIRST_TEXT = "v0,2;v1,0;v2,3;v3,1;n3;n6;n13;n9;n4;t7;t25;s0,0,4;s0,2,2;s1,1,3;s1,3,5;s1,0,1;w0,0,4;w0,2,6;w1,3,5;w0,1,2;w1,0,7;";

    private final Text text = new Text();
    private Land land = new Land();
    private Land draft = new Land();
    private final Standing now = new Standing();
    private final Standing ahead = new Standing();
    private final Shelf past = new Shelf(new Standing[MOST_UNDONE]);
    private final Shelf kept = new Shelf(new Standing[MOST_KEPT]);
    private final Hearsay heard = new Hearsay();

    public FamineOfVerbs() {
        for (int i = 0; i < FIRST_TEXT.length(); i++) {
            text.append(FIRST_TEXT.charAt(i));
        }
        settle();
        text.length = 0;
    }

    // ---- lands

    public int write(int letter) {
        if (!within(letter, 32, 126)) {
            return BAD;
        }
        return text.append(letter) ? text.length : FULL;
    }

    public int wipe() {
        int old = text.length;
        text.length = 0;
        return old;
    }

    public int fault() {
        return text.readInto(draft);
    }

    public int lay() {
        return settle() ? land.villages : NO;
    }

    public int verb(int v, int what) {
        if (!isVerb(v) || !within(what, 0, 2)) {
            return BAD;
        }
        if (what == 2) {
            return stockOfAll(v);
        }
        return at(what == 0 ? land.kinds : land.crops, v);
    }

    public int noun(int n) {
        return within(n, 0, land.nouns - 1) ? land.mindOf(n) : BAD;
    }

    public int village(int t, int what) {
        if (!isVillage(t) || !within(what, 0, 2)) {
            return BAD;
        }
        if (what == 0) {
            return land.nounsOf(t);
        }
        return at(what == 1 ? now.sown : land.said, t);
    }

    public int stock(int t, int v) {
        return isVillage(t) && isVerb(v) ? now.stockOf(t, v) : BAD;
    }

    public int work(int w, int what) {
        if (!isWork(w)) {
            return BAD;
        }
        switch (what) {
            case 0: return at(land.workVillages, w);
            case 1: return at(land.workVerbs, w);
            case 2: return at(land.worths, w);
            case 3: return at(now.done, w);
            case 4: return at(now.forgotten, w);
            default: return BAD;
        }
    }

    // ---- seasons

    public int pass(int n) {
        if (!within(n, 1, 10)) {
            return BAD;
        }
        past.shelve(now);
        goAhead(now, n);
        return now.season;
    }

    public int give(int t, int u, int v, int n) {
        int refusal = refusalOfGift(t, u, v, n, MOST_STOCK);
        if (refusal != 0) {
            return refusal;
        }
        past.shelve(now);
        now.move(t, u, v, n);
        return now.stockOf(u, v);
    }

    public int sow(int t, int v) {
        if (!isVillage(t) || !isVerb(v)) {
            return BAD;
        }
        int seed = now.seedFor(land, t, v);
        if (seed == NONE) {
            return NO;
        }
        past.shelve(now);
        now.setStock(t, seed, now.stockOf(t, seed) - (seed == v ? 1 : 2));
        put(now.sown, t, v);
        return now.stockOf(t, v);
    }

    public int undo() {
        return past.takeInto(now) ? past.held : NO;
    }

    // ---- what comes

    public int behind(int n, int t, int v, int what) {
        if (!within(n, 0, FAR) || !isVillage(t) || !isVerb(v) || !within(what, 0, 2)) {
            return BAD;
        }
        ahead.become(now);
        goAhead(ahead, n);
        if (what == 0) {
            return ahead.stockOf(t, v);
        }
        int works = land.worksIn(t);
        return what == 1 ? worthAhead(works) : forgottenAhead(works);
    }

    public int silent(int what) {
        if (!within(what, 0, 1)) {
            return BAD;
        }
        ahead.become(now);
        for (int k = 1; k <= FAR; k++) {
            int missed = land.allWorks() & ~ahead.goBy(land);
            if (missed != 0) {
                return what == 0 ? lowestIn(missed) : k;
            }
        }
        return NONE;
    }

    public int lasts(int t) {
        if (!isVillage(t)) {
            return BAD;
        }
        int works = land.worksIn(t);
        ahead.become(now);
        // One season more than FAR is looked at, to tell FAR from more.
        for (int k = 0; k <= FAR; k++) {
            if ((works & ~ahead.goBy(land)) != 0) {
                return k;
            }
        }
        return FAR + 1;
    }

    public int sent() {
        int sum = 0;
        for (int v = 0; v < land.verbs; v++) {
            int lacking = 0;
            int needed = 0;
            for (int t = 0; t < land.villages; t++) {
                int need = needOf(t, v);
                needed += need;
                lacking += Math.max(0, need - now.stockOf(t, v));
            }
            if (needed > stockOfAll(v)) {
                return NONE;
            }
            sum += lacking;
        }
        return sum;
    }

    public int share(int v, int n, int t) {
        if (!isVerb(v) || !within(n, 1, 9) || !within(t, -1, land.villages - 1)) {
            return BAD;
        }
        int left = stockOfAll(v);
        int worthOfAll = 0;
        int usedByOne = 0;
        // The dearest works first, and of works worth the same those of the lowest village.
        for (int worth = MOST_WORTH; worth >= 1; worth--) {
            for (int u = 0; u < land.villages; u++) {
                int used = Math.min(left, n * land.worksLike(u, v, worth));
                left -= used;
                worthOfAll += used * worth;
                usedByOne += u == t ? used : 0;
            }
        }
        return t == -1 ? worthOfAll : usedByOne;
    }

    // ---- what is said

    public int readings(int set) {
        return isRow(set) ? land.meantBy(set) : BAD;
    }

    public int say(int t, int v) {
        return isVillage(t) && isVerb(v) ? land.smallestRow(t, v) : BAD;
    }

    public int tells(int set, int what) {
        if (!isRow(set) || !within(what, 0, 1)) {
            return BAD;
        }
        int best = NONE;
        int fewest = NONE;
        for (int n = 0; n < land.nouns; n++) {
            int left = Integer.bitCount(land.meantBy(set | 1 << n));
            if (!has(set, n) && left >= 1 && (best == NONE || left < fewest)) {
                best = n;
                fewest = left;
            }
        }
        return what == 0 ? best : fewest;
    }

    // ---- fields, hoards, caravans

    public int bred(int t) {
        if (!isVillage(t)) {
            return BAD;
        }
        int bits = 0;
        for (int v = 0; v < land.verbs; v++) {
            if (now.seedFor(land, t, v) != NONE) {
                bits |= 1 << v;
            }
        }
        return bits;
    }

    public int hear(int w, int season, boolean done) {
        if (!isWork(w) || !within(season, 1, HEARD_SEASONS)) {
            return BAD;
        }
        return heard.add(w, season, done) ? heard.many : FULL;
    }

    public int forget() {
        int old = heard.many;
        heard.many = 0;
        return old;
    }

    public int hoard(int t, int v, int what) {
        if (!isVillage(t) || !isVerb(v) || !within(what, 0, 1)) {
            return BAD;
        }
        int many = 0;
        int lowest = NONE;
        for (int n = 0; n <= MOST_FIRST_STOCK; n++) {
            if (couldHaveHad(t, v, n)) {
                many++;
                lowest = lowest == NONE ? n : lowest;
            }
        }
        return what == 0 ? many : lowest;
    }

    public int caravan(int t, int u, int v, int n) {
        int refusal = refusalOfGift(t, u, v, n, 9);
        if (refusal != 0) {
            return refusal;
        }
        ahead.become(now);
        goAhead(ahead, CARAVAN_SEASONS);
        int without = worthAhead(land.allWorks());
        ahead.become(now);
        ahead.move(t, u, v, n);
        goAhead(ahead, CARAVAN_SEASONS);
        return worthAhead(land.allWorks()) - without + CARAVAN_BASE;
    }

    public int decade(int z, int n, int what) {
        if (!within(z, 0, 9999) || !within(n, 1, FAR) || !within(what, 0, 1)) {
            return BAD;
        }
        ahead.become(now);
        for (int k = 0; k < n; k++) {
            changeByDraw(drawOf(z, k));
            ahead.goBy(land);
        }
        return what == 0 ? worthAhead(land.allWorks()) : forgottenAhead(land.allWorks());
    }

    public int keep() {
        if (kept.held >= MOST_KEPT) {
            return FULL;
        }
        kept.shelve(now);
        return kept.held;
    }

    public int back() {
        if (!kept.takeInto(now)) {
            return NO;
        }
        past.held = 0;
        return kept.held;
    }

    public int count(int what) {
        switch (what) {
            case 0: return land.verbs;
            case 1: return land.nouns;
            case 2: return land.villages;
            case 3: return land.works;
            case 4: return now.season;
            case 5: return sumOf(now.stocks);
            case 6: return heard.many;
            case 7: return past.held;
            case 8: return kept.held;
            case 9: return text.length;
            default: return BAD;
        }
    }

    // ---- what a number may be

    private boolean isVerb(int v) {
        return within(v, 0, land.verbs - 1);
    }

    private boolean isVillage(int t) {
        return within(t, 0, land.villages - 1);
    }

    private boolean isWork(int w) {
        return within(w, 0, land.works - 1);
    }

    private boolean isRow(int set) {
        return within(set, 1, land.allNouns());
    }

    /** 0, or why n of a VERB cannot go from t to u. */
    private int refusalOfGift(int t, int u, int v, int n, int most) {
        if (!isVillage(t) || !isVillage(u) || t == u || !isVerb(v) || !within(n, 1, most)) {
            return BAD;
        }
        if (now.stockOf(t, v) < n) {
            return NO;
        }
        return now.stockOf(u, v) + n > MOST_STOCK ? FULL : 0;
    }

    // ---- parts of calls

    /** THE TEXT is read into the draft, so that a refused one leaves the land as it is. */
    private boolean settle() {
        if (text.readInto(draft) != NONE || draft.verbs == 0 || draft.villages == 0) {
            return false;
        }
        Land old = land;
        land = draft;
        draft = old;
        land.findSaid();
        now.begin(land);
        past.held = 0;
        kept.held = 0;
        heard.many = 0;
        return true;
    }

    private void goAhead(Standing standing, int seasons) {
        for (int k = 0; k < seasons; k++) {
            standing.goBy(land);
        }
    }

    private int stockOfAll(int v) {
        int sum = 0;
        for (int t = 0; t < land.villages; t++) {
            sum += now.stockOf(t, v);
        }
        return sum;
    }

    private int worthAhead(int works) {
        int sum = 0;
        for (int w = 0; w < land.works; w++) {
            if (has(works, w)) {
                sum += at(land.worths, w) * (at(ahead.done, w) - at(now.done, w));
            }
        }
        return sum;
    }

    private int forgottenAhead(int works) {
        int sum = 0;
        for (int w = 0; w < land.works; w++) {
            if (has(works, w)) {
                sum += at(ahead.forgotten, w) - at(now.forgotten, w);
            }
        }
        return sum;
    }

    private int needOf(int t, int v) {
        int works = land.worksSaidBy(t, v);
        if (works == 0 || land.canSay(t, v)) {
            return 0;
        }
        int kind = at(land.kinds, v);
        if (kind == SMALL && !now.usesSmall()) {
            return 1;
        }
        // The last work on a holy verb may find the single one that is left.
        return kind == HOLY ? 2 * works - 1 : works;
    }

    private boolean couldHaveHad(int t, int v, int n) {
        ahead.begin(land);
        ahead.setStock(t, v, n);
        int latest = Math.min(HEARD_SEASONS, heard.latestSeason());
        for (int season = 1; season <= latest; season++) {
            if (!heard.agrees(season, ahead.goBy(land))) {
                return false;
            }
        }
        return true;
    }

    private void changeByDraw(int draw) {
        int t = remainder(draw, land.villages);
        int v = remainder(draw / 16, land.verbs);
        int more = draw / 8 % 2 == 1 ? 1 : -1;
        ahead.setStock(t, v, Math.max(0, Math.min(MOST_STOCK, ahead.stockOf(t, v) + more)));
    }

    // ---- numbers, bits and rows

    private static int drawOf(int z, int k) {
        long x = 7919L * z + 6151L * k + 1;
        return (int) (x * x % 65521 / 8);
    }

    private static int remainder(int number, int divisor) {
        return divisor > 0 ? number % divisor : 0;
    }

    private static boolean within(int number, int lowest, int highest) {
        return number >= lowest && number <= highest;
    }

    private static boolean has(int bits, int place) {
        return (bits >> place & 1) == 1;
    }

    private static int lowestIn(int bits) {
        for (int place = 0; place < 31; place++) {
            if (has(bits, place)) {
                return place;
            }
        }
        return NONE;
    }

    private static int at(int[] row, int place) {
        return place >= 0 && place < row.length ? row[place] : 0;
    }

    private static void put(int[] row, int place, int number) {
        if (place >= 0 && place < row.length) {
            row[place] = number;
        }
    }

    private static void fill(int[] row, int number) {
        for (int i = 0; i < row.length; i++) {
            row[i] = number;
        }
    }

    private static void copy(int[] from, int[] to) {
        for (int i = 0; i < from.length && i < to.length; i++) {
            to[i] = from[i];
        }
    }

    private static int sumOf(int[] row) {
        int sum = 0;
        for (int number : row) {
            sum += number;
        }
        return sum;
    }

    private static int cell(int t, int v) {
        return t * MOST_VERBS + v;
    }

    /** THE TEXT, letter by letter, and how it is read. */
    private static final class Text {
        final char[] letters = new char[MOST_LETTERS];
        final int[] numbers = new int[3];
        int length;

        boolean append(int letter) {
            if (length < 0 || length >= letters.length) {
                return false;
            }
            letters[length] = (char) letter;
            length++;
            return true;
        }

        /** The place of the first FAULT, or NONE. */
        int readInto(Land land) {
            land.clear();
            int place = 0;
            for (int item = 0; item < MOST_LETTERS && place < length; item++) {
                int end = readItem(land, place);
                if (end == NONE) {
                    return place;
                }
                place = end;
            }
            return NONE;
        }

        /** The place behind the ITEM at a place, or NONE if it is a FAULT. */
        private int readItem(Land land, int start) {
            int letter = letterAt(start);
            int many = numbersBehind(letter);
            int place = start + 1;
            for (int i = 0; i < many; i++) {
                int figures = figuresAt(place);
                if (figures == 0) {
                    return NONE;
                }
                put(numbers, i, numberAt(place, figures));
                place += figures;
                if (letterAt(place) != (i < many - 1 ? ',' : ';')) {
                    return NONE;
                }
                place++;
            }
            return take(land, letter) ? place : NONE;
        }

        private boolean take(Land land, int letter) {
            int a = at(numbers, 0);
            int b = at(numbers, 1);
            int c = at(numbers, 2);
            switch (letter) {
                case 'v': return land.addVerb(a, b);
                case 'n': return land.addNoun(a);
                case 't': return land.addVillage(a);
                case 's': return land.addStock(a, b, c);
                case 'w': return land.addWork(a, b, c);
                default: return false;
            }
        }

        private static int numbersBehind(int letter) {
            switch (letter) {
                case 'n': case 't': return 1;
                case 'v': return 2;
                case 's': case 'w': return 3;
                default: return 0;
            }
        }

        private int letterAt(int place) {
            return place >= 0 && place < length && place < letters.length ? letters[place] : 0;
        }

        private int figuresAt(int place) {
            if (!isFigure(letterAt(place))) {
                return 0;
            }
            return isFigure(letterAt(place + 1)) ? 2 : 1;
        }

        private int numberAt(int place, int figures) {
            int first = letterAt(place) - '0';
            return figures == 1 ? first : 10 * first + letterAt(place + 1) - '0';
        }

        private static boolean isFigure(int letter) {
            return within(letter, '0', '9');
        }
    }

    /** What a TEXT tells: it stays as it is while SEASONS go by. */
    private static final class Land {
        int verbs;
        int nouns;
        int villages;
        int works;
        final int[] kinds = new int[MOST_VERBS];
        final int[] crops = new int[MOST_VERBS];
        final int[] minds = new int[MOST_NOUNS];
        final int[] ownNouns = new int[MOST_VILLAGES];
        final int[] said = new int[MOST_VILLAGES];
        final int[] stocks = new int[MOST_VILLAGES * MOST_VERBS];
        final int[] workVillages = new int[MOST_WORKS];
        final int[] workVerbs = new int[MOST_WORKS];
        final int[] worths = new int[MOST_WORKS];

        void clear() {
            verbs = 0;
            nouns = 0;
            villages = 0;
            works = 0;
            fill(stocks, 0);
        }

        boolean addVerb(int kind, int crop) {
            if (verbs >= MOST_VERBS || !within(kind, 0, HOLY) || !within(crop, 0, 9)) {
                return false;
            }
            put(kinds, verbs, kind);
            put(crops, verbs, crop);
            verbs++;
            return true;
        }

        boolean addNoun(int mind) {
            if (nouns >= MOST_NOUNS || !within(mind, 1, 63)) {
                return false;
            }
            put(minds, nouns, mind);
            nouns++;
            return true;
        }

        boolean addVillage(int own) {
            if (villages >= MOST_VILLAGES || !within(own, 0, OWN_NOUNS)) {
                return false;
            }
            put(ownNouns, villages, own);
            villages++;
            return true;
        }

        boolean addStock(int t, int v, int many) {
            if (!isTold(t, v) || !within(many, 0, MOST_FIRST_STOCK)) {
                return false;
            }
            put(stocks, cell(t, v), many);
            return true;
        }

        boolean addWork(int t, int v, int worth) {
            if (works >= MOST_WORKS || !isTold(t, v) || !within(worth, 1, MOST_WORTH)) {
                return false;
            }
            put(workVillages, works, t);
            put(workVerbs, works, v);
            put(worths, works, worth);
            works++;
            return true;
        }

        private boolean isTold(int t, int v) {
            return t >= 0 && t < villages && v >= 0 && v < verbs;
        }

        int allNouns() {
            return (1 << nouns) - 1;
        }

        int allWorks() {
            return (1 << works) - 1;
        }

        int mindOf(int n) {
            return at(minds, n) & (1 << verbs) - 1;
        }

        int nounsOf(int t) {
            return (at(ownNouns, t) | NOUNS_OF_ALL) & allNouns();
        }

        /** READINGS, as bits, of a set of one or more. */
        int meantBy(int set) {
            int left = (1 << verbs) - 1;
            for (int n = 0; n < nouns; n++) {
                if (has(set, n)) {
                    left &= mindOf(n);
                }
            }
            return left;
        }

        /** Found once a LAND, because every WORK of every SEASON asks for it. */
        void findSaid() {
            fill(said, 0);
            for (int set = 1; set <= allNouns(); set++) {
                int meant = meantBy(set);
                if (Integer.bitCount(meant) == 1) {
                    addSaid(set, meant);
                }
            }
        }

        private void addSaid(int set, int meant) {
            for (int t = 0; t < villages; t++) {
                if ((set & ~nounsOf(t)) == 0) {
                    put(said, t, at(said, t) | meant);
                }
            }
        }

        boolean canSay(int t, int v) {
            return has(at(said, t), v);
        }

        int smallestRow(int t, int v) {
            int own = nounsOf(t);
            int best = NONE;
            for (int set = 1; set <= allNouns(); set++) {
                if ((set & ~own) == 0 && meantBy(set) == 1 << v
                        && (best == NONE || Integer.bitCount(set) < Integer.bitCount(best))) {
                    best = set;
                }
            }
            return best;
        }

        int worksIn(int t) {
            int bits = 0;
            for (int w = 0; w < works; w++) {
                bits |= at(workVillages, w) == t ? 1 << w : 0;
            }
            return bits;
        }

        int worksSaidBy(int t, int v) {
            int many = 0;
            for (int worth = 1; worth <= MOST_WORTH; worth++) {
                many += worksLike(t, v, worth);
            }
            return many;
        }

        int worksLike(int t, int v, int worth) {
            int many = 0;
            for (int w = 0; w < works; w++) {
                if (at(workVillages, w) == t && at(workVerbs, w) == v && at(worths, w) == worth) {
                    many++;
                }
            }
            return many;
        }
    }

    /** All that SEASONS, GIVING and SOWING change. */
    private static final class Standing {
        int season;
        final int[] stocks = new int[MOST_VILLAGES * MOST_VERBS];
        final int[] sown = new int[MOST_VILLAGES];
        final int[] done = new int[MOST_WORKS];
        final int[] forgotten = new int[MOST_WORKS];

        void begin(Land land) {
            season = 0;
            copy(land.stocks, stocks);
            fill(sown, NONE);
            fill(done, 0);
            fill(forgotten, 0);
        }

        void become(Standing other) {
            season = other.season;
            copy(other.stocks, stocks);
            copy(other.sown, sown);
            copy(other.done, done);
            copy(other.forgotten, forgotten);
        }

        int stockOf(int t, int v) {
            return at(stocks, cell(t, v));
        }

        void setStock(int t, int v, int many) {
            put(stocks, cell(t, v), many);
        }

        void move(int t, int u, int v, int n) {
            setStock(t, v, stockOf(t, v) - n);
            setStock(u, v, stockOf(u, v) + n);
        }

        boolean usesSmall() {
            return season % 2 == 1;
        }

        /** The VERB that sowing v in t costs, or NONE if it cannot be SOWN. */
        int seedFor(Land land, int t, int v) {
            if (at(sown, t) != NONE) {
                return NONE;
            }
            if (stockOf(t, v) >= 1) {
                return v;
            }
            for (int small = 0; small < land.verbs; small++) {
                if (at(land.kinds, small) == SMALL && stockOf(t, small) >= 2) {
                    return small;
                }
            }
            return NONE;
        }

        /** One SEASON goes by: WORKS that were DONE in it, as bits. */
        int goBy(Land land) {
            int bits = 0;
            for (int w = 0; w < land.works; w++) {
                if (tryWork(land, w)) {
                    bits |= 1 << w;
                    put(done, w, at(done, w) + 1);
                } else {
                    put(forgotten, w, at(forgotten, w) + 1);
                }
            }
            for (int t = 0; t < land.villages; t++) {
                reap(land, t);
            }
            feedLocusts();
            season++;
            return bits;
        }

        private boolean tryWork(Land land, int w) {
            int t = at(land.workVillages, w);
            int v = at(land.workVerbs, w);
            int many = stockOf(t, v);
            if (many == 0) {
                return land.canSay(t, v);
            }
            setStock(t, v, many - usedOf(at(land.kinds, v), many));
            return true;
        }

        private int usedOf(int kind, int many) {
            if (kind == SMALL) {
                return usesSmall() ? 1 : 0;
            }
            return kind == HOLY && many >= 2 ? 2 : 1;
        }

        private void reap(Land land, int t) {
            int v = at(sown, t);
            if (v == NONE) {
                return;
            }
            int crop = at(land.crops, v) * (at(land.kinds, v) == SEED ? 2 : 1);
            setStock(t, v, Math.min(MOST_STOCK, stockOf(t, v) + crop));
            put(sown, t, NONE);
        }

        private void feedLocusts() {
            for (int i = 0; i < stocks.length; i++) {
                if (stocks[i] >= LOCUSTS_FROM) {
                    stocks[i] -= stocks[i] / 10;
                }
            }
        }
    }

    /** The latest standings, of which the oldest gives way when there is no place. */
    private static final class Shelf {
        final Standing[] places;
        int held;
        private int next;

        Shelf(Standing[] places) {
            this.places = places;
            for (int i = 0; i < places.length; i++) {
                places[i] = new Standing();
            }
        }

        void shelve(Standing standing) {
            if (next >= 0 && next < places.length && places[next] != null) {
                places[next].become(standing);
                next = next + 1 < places.length ? next + 1 : 0;
                held = Math.min(held + 1, places.length);
            }
        }

        boolean takeInto(Standing standing) {
            int last = next > 0 ? next - 1 : places.length - 1;
            if (held <= 0 || last < 0 || last >= places.length || places[last] == null) {
                return false;
            }
            standing.become(places[last]);
            next = last;
            held--;
            return true;
        }
    }

    /** What is HEARD of WORKS. */
    private static final class Hearsay {
        final int[] works = new int[MOST_HEARD];
        final int[] seasons = new int[MOST_HEARD];
        final boolean[] wereDone = new boolean[MOST_HEARD];
        int many;

        boolean add(int w, int season, boolean done) {
            if (many < 0 || many >= wereDone.length) {
                return false;
            }
            put(works, many, w);
            put(seasons, many, season);
            wereDone[many] = done;
            many++;
            return true;
        }

        int latestSeason() {
            int latest = 0;
            for (int i = 0; i < many; i++) {
                latest = Math.max(latest, at(seasons, i));
            }
            return latest;
        }

        /** Whether WORKS DONE in a SEASON, as bits, are as is HEARD of it. */
        boolean agrees(int season, int done) {
            for (int i = 0; i < many && i < wereDone.length; i++) {
                if (at(seasons, i) == season && has(done, at(works, i)) != wereDone[i]) {
                    return false;
                }
            }
            return true;
        }
    }
}
